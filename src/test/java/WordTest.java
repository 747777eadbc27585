/** Promises 1, 2 and 10: a new object, word, count of words. */
public final class WordTest {
    public static void main(String[] args) {
        newObject();
        edgesOfValues();
        counting();
        fullRow();
        Cobol.end();
    }

    private static void newObject() {
        CobolParser parser = new CobolParser();
        Cobol.due("count(0)", parser.count(0), 0);
        Cobol.due("count(1)", parser.count(1), 0);
        Cobol.due("count(2)", parser.count(2), 0);
        Cobol.due("faults()", parser.faults(), 0);
        Cobol.due("depth()", parser.depth(), 0);
        Cobol.due("node(0, 0)", parser.node(0, 0), -1);
        Cobol.due("node(0, 4)", parser.node(0, 4), -1);
        Cobol.due("child(0, 0)", parser.child(0, 0), -1);
        Cobol.due("fault(0, 0)", parser.fault(0, 0), -1);
        Cobol.due("division(0, 0)", parser.division(0, 0), -1);
        Cobol.due("parse()", parser.parse(), 0);
        Cobol.due("NONE", CobolParser.NONE, -1);
    }

    private static void edgesOfValues() {
        int[] greatest = {78, 99, 99999, 99, 0, 8};
        for (int kind = 0; kind < greatest.length; kind++) {
            CobolParser parser = new CobolParser();
            Cobol.due("word(" + kind + ", 0)", parser.word(kind, 0), 1);
            Cobol.due("word(" + kind + ", greatest)", parser.word(kind, greatest[kind]), 2);
            int beyond = kind == 4 ? 3 : -4;
            Cobol.due("word(" + kind + ", beyond)", parser.word(kind, greatest[kind] + 1), beyond);
            Cobol.due("word(" + kind + ", -1)", parser.word(kind, -1), kind == 4 ? 4 : -4);
            Cobol.due("count(0)", parser.count(0), kind == 4 ? 4 : 2);
        }
        CobolParser parser = new CobolParser();
        for (int kind : new int[] {-1, 6, Integer.MIN_VALUE, Integer.MAX_VALUE}) {
            Cobol.due("word(" + kind + ", 0)", parser.word(kind, 0), -4);
        }
        Cobol.due("word(0, MAX)", parser.word(0, Integer.MAX_VALUE), -4);
        Cobol.due("word(2, MIN)", parser.word(2, Integer.MIN_VALUE), -4);
        Cobol.due("word(4, MIN)", parser.word(4, Integer.MIN_VALUE), 1);
        Cobol.due("word(4, MAX)", parser.word(4, Integer.MAX_VALUE), 2);
    }

    private static void counting() {
        CobolParser parser = new CobolParser();
        for (int i = 1; i <= 400; i++) {
            Cobol.due("word " + i, parser.word(1, i % 100), i);
        }
        Cobol.due("count(0)", parser.count(0), 400);
        Cobol.due("parses", Cobol.parses(parser) ? 1 : 0, 0);
        Cobol.due("count(0) behind parse()", parser.count(0), 0);
        Cobol.due("word behind parse()", parser.word(1, 1), 1);
    }

    private static void fullRow() {
        CobolParser parser = new CobolParser();
        for (int i = 0; i < 1500; i++) {
            parser.word(4, 0);
        }
        Cobol.due("the 1,501st word", parser.word(4, 0), -1);
        Cobol.due("a wrong one there", parser.word(6, 0), -4);
        Cobol.due("count(0)", parser.count(0), 1500);
    }
}
