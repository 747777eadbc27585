/** Promises 3 and 8: units, divisions, files, sections, paragraphs, the states, and the end of all. */
public final class DivisionTest {
    private static final String P = Cobol.PROGRAM;
    private static final String B = Cobol.BODY;

    public static void main(String[] args) {
        units();
        contained();
        environment();
        procedure();
        states();
        ends();
        divisionAnswers();
        again();
        Cobol.end();
    }

    private static void units() {
        Cobol.dueTree("", "");
        Cobol.dueTree(P, "1:1@0");
        Cobol.dueTree("ID DIVISION . FUNCTION-ID n0 .", "2@0");
        Cobol.dueTree("ID DIVISION . FUNCTION-ID n7 . END FUNCTION n7 . " + P, "2:7@0 1:1@10");
        Cobol.dueTree(P + "END PROGRAM n1 . ID DIVISION . FUNCTION-ID n2 .", "1:1@0 2:2@10");
        Cobol.due("parse()", Cobol.parsed(P + "END PROGRAM n1 . " + P).count(2), 2);
        CobolParser parser = new CobolParser();
        Cobol.add(parser, Cobol.words(P + P + "END PROGRAM n1 . " + P + "END PROGRAM n1 . END PROGRAM n1 ."));
        Cobol.due("parse() of three", parser.parse(), 3);
    }

    private static void contained() {
        String inner = "ID DIVISION . PROGRAM-ID n2 . END PROGRAM n2 . ";
        Cobol.dueTree(P + "DATA DIVISION . " + inner + inner + "END PROGRAM n1 .", "1:1@0(7@6 1:2@9 1:2@19)");
        Cobol.dueFaults(P + "ID DIVISION . FUNCTION-ID n2 .", "1@9 1@12");
        Cobol.dueFaults("ID DIVISION . FUNCTION-ID n2 . ID DIVISION .", "1@6");
        Cobol.dueFaults(P + inner + "DATA DIVISION . END PROGRAM n1 .", "1@16");
        Cobol.dueFaults(P + inner + "n3 . END PROGRAM n1 .", "1@16");
        Cobol.dueFaults("ID DIVISION . ID DIVISION .", "1@3 1@6");
        Cobol.dueFaults(P + "ID . DATA DIVISION .", "1@7");
        StringBuilder ten = new StringBuilder();
        for (int i = 0; i < 10; i++) {
            ten.append(P);
        }
        StringBuilder ends = new StringBuilder();
        for (int i = 0; i < 10; i++) {
            ends.append("END PROGRAM n1 . ");
        }
        Cobol.due("ten open", Cobol.parsed(ten.toString() + ends).count(2), 10);
        Cobol.dueFaults(ten + "ID DIVISION . " + ends, "3@60");
        Cobol.dueFaults(ten + "ID n1 . " + ends, "3@60");
        Cobol.dueFaults(ten + "ID DIVISION . ENVIRONMENT DIVISION . " + ends, "3@60");
        Cobol.dueFaults(ten + "PROCEDURE DIVISION . DECLARATIVES . ID DIVISION . END DECLARATIVES . " + ends, "1@65");
        Cobol.dueFaults(ten.toString(), "1@60");
    }

    private static void environment() {
        String e = P + "ENVIRONMENT DIVISION . ";
        Cobol.dueTree(e, "1:1@0(3@6)");
        Cobol.dueTree(e + "SELECT n5 ASSIGN n6 . SELECT n0 ASSIGN TO t9 .",
            "1:1@0(3@6(4:5@9(41:100006@12) 4@14(41:300009@18)))");
        Cobol.dueTree(e + "SELECT n5 ASSIGN t1 ORGANIZATION SEQUENTIAL KEY n8 .",
            "1:1@0(3@6(4:5@9(41:300001@12 5@13 6:8@15)))");
        Cobol.dueTree(e + "SELECT n5 ASSIGN t1 ORGANIZATION IS RELATIVE .",
            "1:1@0(3@6(4:5@9(41:300001@12 5:1@13)))");
        Cobol.dueTree(e + "SELECT n5 ASSIGN t1 ORGANIZATION IS INDEXED KEY IS n0 .",
            "1:1@0(3@6(4:5@9(41:300001@12 5:2@13 6@16)))");
        Cobol.dueFaults(e + "SELECT n5 ASSIGN 3 .", "1@12");
        Cobol.dueFaults(e + "SELECT n5 ASSIGN TO .", "1@13");
        Cobol.dueFaults(e + "SELECT t5 ASSIGN t1 .", "1@10");
        Cobol.dueFaults(e + "SELECT n5 t1 .", "1@11");
        Cobol.dueFaults(e + "SELECT n5 ASSIGN t1 ORGANIZATION KEY .", "1@14");
        Cobol.dueFaults(e + "SELECT n5 ASSIGN t1 KEY n1 ORGANIZATION INDEXED .", "1@15");
        Cobol.dueFaults(e + "SELECT n5 ASSIGN t1 t2 .", "1@13");
        Cobol.dueFaults(e + "SELECT n5 ASSIGN t1 ORGANIZATION IS 8 .", "1@15");
        Cobol.dueFaults(P + "SELECT n5 ASSIGN t1 .", "1@6");
    }

    private static void procedure() {
        Cobol.dueTree(P + "PROCEDURE DIVISION USING n0 n5 n6 .", "1:1@0(20@6(21@9 21:5@10 21:6@11))");
        Cobol.dueFaults(P + "PROCEDURE DIVISION USING .", "1@9");
        Cobol.dueFaults(P + "PROCEDURE DIVISION n1 .", "1@8");
        Cobol.dueBody("EXIT . n2 . EXIT . EXIT . n3 . n4 SECTION . EXIT . n5 . EXIT . n6 SECTION . n7 .",
            "25@9(36@9) 24:2@11(25@13(36@13) 25@15(36@15)) 24:3@17 "
                + "23:4@19(25@22(36@22) 24:5@24(25@26(36@26))) 23:6@28(24:7@31)");
        Cobol.dueBody("DECLARATIVES . n2 SECTION . EXIT . n3 . EXIT . n4 SECTION . END DECLARATIVES . EXIT . n5 . EXIT .",
            "22@9(23:2@11(25@14(36@14) 24:3@16(25@18(36@18))) 23:4@20) 25@26(36@26) 24:5@28(25@30(36@30))");
        Cobol.dueBody("DECLARATIVES . END DECLARATIVES . n2 SECTION .", "22@9 23:2@14");
        Cobol.dueBodyFaults("DECLARATIVES . n2 . EXIT . n3 SECTION . n2 . EXIT . END DECLARATIVES . EXIT .", "1@2 1@4");
        Cobol.dueBodyFaults("DECLARATIVES . n3 SECTION n2 . EXIT . END DECLARATIVES .", "1@4 1@6");
        Cobol.dueBodyFaults("EXIT . DECLARATIVES .", "1@2");
        Cobol.dueBodyFaults("n2 SECTION . DECLARATIVES .", "1@3");
        Cobol.dueBodyFaults("DECLARATIVES . END DECLARATIVES . DECLARATIVES .", "1@5");
        Cobol.dueBodyFaults("DECLARATIVES . ID DIVISION . END DECLARATIVES .", "1@2");
        Cobol.dueBodyFaults("DECLARATIVES . END PROGRAM n1 . END DECLARATIVES .", "1@2");
        Cobol.dueBodyFaults("DECLARATIVES . END n1 . END DECLARATIVES .", "1@3");
        Cobol.dueBodyFaults("DECLARATIVES EXIT . EXIT .", "1@1");
        Cobol.dueBodyFaults("END DECLARATIVES . EXIT .", "1@0");
        Cobol.dueBodyFaults("n2 EXIT .", "1@1");
        Cobol.dueBodyFaults("n2 SECTION EXIT .", "1@2");
        Cobol.dueBodyFaults("SECTION .", "1@0");
    }

    private static void states() {
        String[] opening = {"", "ID DIVISION .", P, P + "ENVIRONMENT DIVISION .", P + "DATA DIVISION .",
            P + "DATA DIVISION . FILE SECTION .", P + "DATA DIVISION . FILE SECTION . FD n1 .",
            P + "DATA DIVISION . WORKING SECTION .", P + "DATA DIVISION . LINKAGE SECTION .", B, B + "DECLARATIVES .",
            B + "DECLARATIVES . END DECLARATIVES .", B + "EXIT .", P + P + "END PROGRAM n1 ."};
        String[] clause = {"ID DIVISION .", "PROGRAM-ID n1 .", "FUNCTION-ID n1 .", "ENVIRONMENT DIVISION .",
            "SELECT n1 ASSIGN n1 .", "DATA DIVISION .", "FILE SECTION .", "FD n1 .", "WORKING SECTION .",
            "LINKAGE SECTION .", "1 .", "PROCEDURE DIVISION .", "DECLARATIVES .", "END DECLARATIVES .", "n1 SECTION .",
            "n1 .", "EXIT .", "END PROGRAM n1 .", "END FUNCTION n1 .", "TO .", ".", "t1 .", "( ."};
        // Per clause, for no unit and the states 0 to 12: x where it may come.
        String[] may = {"x.xxxxxxxx.xxx", ".x............", ".x............", "..x...........",
            "...x..........", "..xx..........", "....x.........", ".....xx.......", "....xxx.......",
            "....xxxx......", "......xxx.....", "..xxxxxxx.....", ".........x....", "..........x...", ".........xxxx.",
            ".........x.xx.", ".........x.xx.", "..xxxxxxxx.xxx", "..............", "..............", "..............",
            "..............", ".............."};
        for (int c = 0; c < clause.length; c++) {
            for (int s = 0; s < opening.length; s++) {
                CobolParser parser = Cobol.parsed(opening[s] + " " + clause[c]);
                int begin = Cobol.words(opening[s]).size();
                boolean unitMismatch = clause[c].startsWith("END FUNCTION") && may[c - 1].charAt(s) == 'x';
                int place = begin + (unitMismatch ? 1 : 0);
                boolean came = parser.faults() == 0 || parser.fault(0, 1) != place;
                Cobol.due(opening[s] + " " + clause[c] + " comes", came ? 1 : 0, may[c].charAt(s) == 'x' ? 1 : 0);
            }
        }
    }

    private static void ends() {
        Cobol.dueFaults("ID DIVISION .", "1@3");
        Cobol.dueFaults("ID", "1@1");
        Cobol.dueFaults("ID DIVISION", "1@2");
        Cobol.dueFaults("ID DIVISION . PROGRAM-ID", "1@4 1@4");
        Cobol.dueFaults(P + "DATA DIVISION", "1@8");
        Cobol.dueFaults(P + "DATA DIVISION .", "");
        Cobol.dueFaults(B + "DECLARATIVES .", "1@11");
        Cobol.dueFaults(B + "DECLARATIVES . END", "1@12 1@12");
        Cobol.dueFaults(P + P + "END PROGRAM n1 .", "1@16");
        Cobol.dueFaults(P + P, "1@12");
        Cobol.dueFaults(P + P + "END PROGRAM n1 . END PROGRAM n1", "1@19 1@19");
        Cobol.dueFaults(P + "END PROGRAM n1 . END PROGRAM n1 .", "1@10");
        Cobol.dueFaults(P + "END PROGRAM n1 . ID DIVISION .", "1@13");
        Cobol.dueFaults("ID DIVISION . FUNCTION-ID n1 . END PROGRAM n1 .", "1@7");
        Cobol.dueFaults(P + "END FUNCTION n1 .", "1@7");
        Cobol.dueFaults(P + "END n1 .", "1@7");
        Cobol.dueFaults("END n1 .", "1@0");
        Cobol.dueFaults("ID DIVISION . END n1 .", "1@3 1@6");
        Cobol.dueFaults("ID DIVISION . END", "1@3 1@4");
    }

    private static void divisionAnswers() {
        CobolParser parser = Cobol.parsed(P + "ENVIRONMENT DIVISION . SELECT n1 ASSIGN n2 . DATA DIVISION . "
            + "PROCEDURE DIVISION . EXIT . ID DIVISION . PROGRAM-ID n2 . PROCEDURE DIVISION . END PROGRAM n2 . "
            + "END PROGRAM n1 . ID DIVISION . FUNCTION-ID n3 . DATA DIVISION .");
        int[][] want = {{0, 1, 4, 5, -1}, {8, -1, -1, 9, -1}, {10, -1, 11, -1, -1}, {-1, -1, -1, -1, -1}};
        for (int k = 0; k < want.length; k++) {
            for (int d = 0; d < 5; d++) {
                Cobol.due("division(" + k + ", " + d + ")", parser.division(k, d), want[k][d]);
            }
        }
        Cobol.due("division(-1, 0)", parser.division(-1, 0), -1);
        Cobol.due("division(0, -1)", parser.division(0, -1), -1);
        Cobol.due("division(MAX, 0)", parser.division(Integer.MAX_VALUE, 0), -1);
        Cobol.due("division(MIN, 3)", parser.division(Integer.MIN_VALUE, 3), -1);
    }

    private static void again() {
        CobolParser parser = Cobol.parsed(P + "DATA DIVISION .");
        Cobol.due("nodes", parser.count(1), 2);
        parser.word(0, 0);
        Cobol.due("nodes while words come", parser.count(1), 2);
        Cobol.due("words", parser.count(0), 1);
        Cobol.due("parses", Cobol.parses(parser) ? 1 : 0, 0);
        Cobol.due("nodes behind faults", parser.count(1), 0);
        Cobol.due("units behind faults", parser.count(2), 0);
        Cobol.due("division behind faults", parser.division(0, 0), -1);
        Cobol.due("depth behind faults", parser.depth(), 0);
        Cobol.due("faults", Cobol.faults(parser), "1@1");
        Cobol.add(parser, Cobol.words(P));
        Cobol.due("parse()", parser.parse(), 1);
        Cobol.due("faults", parser.faults(), 0);
        Cobol.due("tree", Cobol.dump(parser), "1:1@0");
        Cobol.due("parse() of none", parser.parse(), 0);
        Cobol.due("nodes of none", parser.count(1), 0);
    }
}
