/** Promises 4, 5, 9 and 10: node, child, depth and count, with arguments that have no answer. */
public final class NodeTest {
    public static void main(String[] args) {
        nodes();
        scopeEnds();
        children();
        depths();
        counts();
        Cobol.end();
    }

    private static void nodes() {
        CobolParser parser = Cobol.parsed(Cobol.BODY + "n2 . IF n1 = 3 MOVE 1 TO n2 END-IF .");
        int[][] want = {
            {1, 1, 0, 1, -1, -1}, {20, 0, 6, 1, 0, -1}, {24, 2, 9, 1, 1, -1}, {25, 0, 11, 1, 2, -1}, {28, 0, 11, 2, 3, 1},
            {53, 0, 12, 2, 4, 6}, {41, 100001, 12, 0, 5, -1}, {41, 200003, 14, 0, 5, -1}, {40, 0, 15, 1, 4, -1},
            {26, 0, 15, 2, 8, 0}, {41, 200001, 16, 0, 9, -1}, {41, 100002, 18, 0, 9, -1},
        };
        for (int i = 0; i < want.length; i++) {
            for (int what = 0; what < 6; what++) {
                Cobol.due("node(" + i + ", " + what + ")", parser.node(i, what), want[i][what]);
            }
            Cobol.due("node(" + i + ", 6)", parser.node(i, 6), -1);
            Cobol.due("node(" + i + ", -1)", parser.node(i, -1), -1);
        }
        for (int i : new int[] {-1, 12, Integer.MAX_VALUE, Integer.MIN_VALUE}) {
            for (int what = -1; what < 7; what++) {
                Cobol.due("node(" + i + ", " + what + ")", parser.node(i, what), -1);
            }
        }
    }

    private static void scopeEnds() {
        CobolParser parser = Cobol.parsed(Cobol.BODY + "MOVE 1 TO n1 ADD 1 TO n1 DISPLAY 1 GO n1 STOP RUN EXIT CONTINUE "
            + "READ n1 CALL n1 PERFORM n1 COMPUTE n1 = 1 IF n1 NEXT SENTENCE .");
        for (int i = 0; i < parser.count(1); i++) {
            boolean statement = parser.node(i, 0) >= 26 && parser.node(i, 0) <= 38;
            Cobol.due("node(" + i + ", 5)", parser.node(i, 5), statement ? 0 : -1);
        }
    }

    private static void children() {
        CobolParser parser = Cobol.parsed(Cobol.BODY + "DISPLAY 1 2 3 . EXIT .");
        Cobol.due("child(1, 0)", parser.child(1, 0), 2);
        Cobol.due("child(1, 1)", parser.child(1, 1), 7);
        Cobol.due("child(3, 0)", parser.child(3, 0), 4);
        Cobol.due("child(3, 2)", parser.child(3, 2), 6);
        int[][] without = {{3, 3}, {3, -1}, {4, 0}, {9, 0}, {-1, 0}, {Integer.MAX_VALUE, 0}, {Integer.MIN_VALUE, 0},
            {3, Integer.MAX_VALUE}, {3, Integer.MIN_VALUE}};
        for (int[] call : without) {
            Cobol.due("child(" + call[0] + ", " + call[1] + ")", parser.child(call[0], call[1]), -1);
        }
    }

    private static void depths() {
        Cobol.due("depth of a unit", Cobol.parsed(Cobol.PROGRAM).depth(), 1);
        Cobol.due("depth of a body", Cobol.parsed(Cobol.BODY + "EXIT .").depth(), 4);
        Cobol.due("depth of the deeper", Cobol.parsed(Cobol.BODY + "n1 SECTION . n2 . DISPLAY 1 . n3 SECTION .").depth(), 7);
        StringBuilder sum = new StringBuilder("COMPUTE n1 = 1");
        for (int i = 0; i < 200; i++) {
            sum.append(" + 1");
        }
        CobolParser parser = Cobol.parsed(Cobol.BODY + sum + " .");
        Cobol.due("depth of a long sum", parser.depth(), 4 + 201);
        Cobol.due("nodes of a long sum", parser.count(1), 4 + 401);
    }

    private static void counts() {
        CobolParser parser = Cobol.parsed(Cobol.BODY + "EXIT .");
        parser.word(4, 0);
        Cobol.due("count(0)", parser.count(0), 1);
        Cobol.due("count(1)", parser.count(1), 4);
        Cobol.due("count(2)", parser.count(2), 1);
        for (int what : new int[] {-1, 3, Integer.MAX_VALUE, Integer.MIN_VALUE}) {
            Cobol.due("count(" + what + ")", parser.count(what), -1);
        }
    }
}
