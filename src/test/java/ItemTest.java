/** Data descriptions: their clauses, and the items in one another by levels. */
public final class ItemTest {
    private static final String W = Cobol.PROGRAM + "DATA DIVISION . WORKING SECTION . ";

    public static void main(String[] args) {
        clauses();
        badClauses();
        levels();
        sections();
        unchanged();
        Cobol.end();
    }

    private static void items(String source, String want) {
        Cobol.dueTree(W + source, "1:1@0(7@6(9@9(" + want + ")))");
    }

    private static void clauses() {
        items("1 .", "12:1000@12");
        items("1 FILLER .", "12:1000@12");
        items("1 n0 .", "12:1001@12");
        items("77 n99 PIC t3 PIC IS t4 .", "12:77100@12(13:3@14 13:4@16)");
        items("1 VALUE 3 VALUE IS t4 VALUE 5 THRU t6 .",
            "12:1000@12(14@13(41:200003@14) 14@15(41:300004@17) 14@18(41:200005@19 41:300006@21))");
        items("1 n1 OCCURS 3 .", "12:1002@12(15:3@14)");
        items("1 n1 OCCURS 3 TIMES DEPENDING n4 INDEXED BY n5 n6 OCCURS 2 INDEXED n7 .",
            "12:1002@12(15:3@14(16:4@18 17:5@21 17:6@22) 15:2@23(17:7@26))");
        items("1 n1 REDEFINES n2 USAGE COMP USAGE IS DISPLAY USAGE DISPLAY .",
            "12:1002@12(18:2@14 19@16 19:1@18 19:1@21)");
    }

    private static void badClauses() {
        Cobol.dueFaults(W + "1 n1 n2 .", "1@14");
        Cobol.dueFaults(W + "1 FILLER n2 .", "1@14");
        Cobol.dueFaults(W + "1 PIC n2 .", "1@14");
        Cobol.dueFaults(W + "1 PIC IS .", "1@15");
        Cobol.dueFaults(W + "1 VALUE n2 .", "1@14");
        Cobol.dueFaults(W + "1 VALUE 2 THRU n1 .", "1@16");
        Cobol.dueFaults(W + "1 VALUE 2 3 .", "1@15");
        Cobol.dueFaults(W + "1 OCCURS n2 .", "1@14");
        Cobol.dueFaults(W + "1 OCCURS 2 DEPENDING 3 .", "1@16");
        Cobol.dueFaults(W + "1 OCCURS 2 INDEXED BY .", "1@17");
        Cobol.dueFaults(W + "1 OCCURS 2 INDEXED n1 DEPENDING n1 .", "1@17");
        Cobol.dueFaults(W + "1 REDEFINES 2 .", "1@14");
        Cobol.dueFaults(W + "1 USAGE IS IS .", "1@15");
        Cobol.dueFaults(W + "1 TIMES .", "1@13");
        Cobol.dueFaults(W + "1 19 t1 .", "1@13");
        Cobol.dueFaults(W + "1 n1 n26 n2 .", "1@14");
        Cobol.dueFaults(W + "1 n1 t20 3 .", "1@14");
        Cobol.dueFaults(W + "1 MOVE .", "1@13");
        Cobol.dueFaults(W + "1 n1 PIC t1", "1@16");
    }

    private static void levels() {
        items("1 . 5 . 10 . 7 . 5 . 2 . 49 . 1 . 49 .",
            "12:1000@12(12:5000@14(12:10000@16 12:7000@18) 12:5000@20 12:2000@22(12:49000@24)) 12:1000@26(12:49000@28)");
        items("1 . 88 . 5 . 88 n1 . 88 . 5 . 77 . 88 .",
            "12:1000@12(12:88000@14 12:5000@16(12:88002@18 12:88000@21) 12:5000@23) 12:77000@25(12:88000@27)");
        items("1 PIC t1 . 5 .", "12:1000@12(13:1@13 12:5000@16)");
        for (int level : new int[] {0, 2, 49, 50, 66, 76, 78, 87, 88, 89, 99999}) {
            Cobol.dueFaults(W + level + " .", "1@12");
        }
        for (int level : new int[] {0, 50, 66, 76, 78, 87, 89, 1001, 99999}) {
            Cobol.dueFaults(W + "1 . " + level + " .", "1@14");
        }
        Cobol.dueFaults(W + "77 . 5 .", "1@14");
        Cobol.dueFaults(W + "1 . 77 . 49 .", "1@16");
        StringBuilder all = new StringBuilder();
        for (int level = 1; level <= 49; level++) {
            all.append(level).append(" . ");
        }
        Cobol.due("depth of 49 levels", Cobol.parsed(W + all + "88 .").depth(), 3 + 49 + 1);
    }

    private static void sections() {
        String f = Cobol.PROGRAM + "DATA DIVISION . FILE SECTION . ";
        Cobol.dueTree(f + "FD n2 . 1 . 5 . FD n3 . 1 . WORKING SECTION . 77 . LINKAGE SECTION . 1 .",
            "1:1@0(7@6(8@9(11:2@12(12:1000@15(12:5000@17)) 11:3@19(12:1000@22)) 9@24(12:77000@27) 10@29(12:1000@32)))");
        Cobol.dueFaults(f + "1 .", "1@12");
        Cobol.dueFaults(f + "FD n2 . 1 . FD n3 . 5 .", "1@20");
        Cobol.dueFaults(f + "FD n2 . 1 . FD n3 . 88 .", "1@20");
        Cobol.dueFaults(f + "FD n2 . 1 . WORKING SECTION . 5 .", "1@20");
        Cobol.dueFaults(W + "1 . LINKAGE SECTION . 88 .", "1@17");
        Cobol.dueFaults(f + "FD 2 .", "1@13");
        Cobol.dueFaults(f + "FD n2 n3 .", "1@14");
    }

    private static void unchanged() {
        Cobol.dueFaults(W + "1 . 77 TO . 5 .", "1@15");
        Cobol.dueFaults(W + "77 . 1 TO . 5 .", "1@15 1@17");
        Cobol.dueFaults(W + "1 TO . 88 .", "1@13 1@15");
        Cobol.dueFaults(W + "1 . LINKAGE . 5 .", "1@15");
        Cobol.dueFaults(Cobol.PROGRAM + "DATA DIVISION . FILE SECTION . FD n1 . 1 . FD . 5 .", "1@18");
    }
}
