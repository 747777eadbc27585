/** Promises 3, 6 and 7: faults by words, going on behind the next period, and the twenty of them. */
public final class FaultTest {
    public static void main(String[] args) {
        goingOn();
        otherNames();
        twenty();
        nesting();
        answers();
        Cobol.end();
    }

    private static void goingOn() {
        Cobol.dueFaults(".", "1@0");
        Cobol.dueFaults("n1 n2 n3", "1@0");
        Cobol.dueFaults(". . TO . n1", "1@0 1@1 1@2 1@4");
        Cobol.dueBodyFaults("MOVE 1 TO . EXIT . MOVE TO EXIT . n1", "1@3 1@7 1@11");
        Cobol.dueBodyFaults("EXIT . GO t1 . EXIT . GO n1 . GO", "1@3 1@11");
        Cobol.dueFaults(Cobol.PROGRAM + "DATA . FILE SECTION . DATA DIVISION . FILE SECTION .", "1@7 1@8");
        Cobol.dueFaults(Cobol.PROGRAM + "DATA DIVISION FILE SECTION . FILE SECTION .", "1@8 1@11");
    }

    private static void otherNames() {
        Cobol.dueFaults(Cobol.PROGRAM + "END PROGRAM n2 .", "2@8");
        Cobol.dueFaults(Cobol.PROGRAM + "END PROGRAM n2 n3 .", "1@9");
        Cobol.dueFaults(Cobol.PROGRAM + "END PROGRAM n2", "1@9");
        Cobol.dueFaults(Cobol.PROGRAM + "END PROGRAM 1 .", "1@8");
        Cobol.dueFaults("ID DIVISION . FUNCTION-ID n1 . END FUNCTION n0 . EXIT .", "2@8 1@10");
        Cobol.dueFaults(Cobol.PROGRAM + Cobol.PROGRAM + "END PROGRAM n2 . END PROGRAM n3 .", "2@14 2@18");
    }

    private static void twenty() {
        StringBuilder source = new StringBuilder();
        StringBuilder want = new StringBuilder();
        for (int i = 0; i < 20; i++) {
            want.append(i == 0 ? "" : " ").append("1@").append(i);
        }
        for (int i = 0; i < 19; i++) {
            source.append(". ");
        }
        Cobol.dueFaults(source + ". . .", want.toString());
        // The 20th is the clause's, so that the end of all is not looked at.
        String nineteen = want.substring(0, want.lastIndexOf(" "));
        Cobol.dueFaults(source + "ID DIVISION .", nineteen + " 1@22");
        Cobol.dueFaults(source + "ID DIVISION . PROGRAM-ID", nineteen + " 1@23");
        Cobol.dueFaults(source + Cobol.PROGRAM + "END PROGRAM n2 . TO . ID DIVISION .", nineteen + " 2@27");
        CobolParser parser = Cobol.parsed(source + ". . .");
        Cobol.due("faults()", parser.faults(), 20);
        Cobol.due("fault(19, 1)", parser.fault(19, 1), 19);
        Cobol.due("fault(20, 1)", parser.fault(20, 1), -1);
        Cobol.due("words", parser.count(0), 0);
    }

    private static String times(int count, String text) {
        StringBuilder all = new StringBuilder();
        for (int i = 0; i < count; i++) {
            all.append(text);
        }
        return all.toString();
    }

    private static void nesting() {
        Cobol.dueBodyFaults(times(40, "IF n1 ") + "EXIT .", "");
        Cobol.dueBodyFaults(times(41, "IF n1 ") + "EXIT .", "3@82");
        Cobol.dueBodyFaults(times(41, "IF n1 ") + "n1 EXIT .", "1@82");
        Cobol.dueBodyFaults(times(41, "IF n1 ") + "NEXT SENTENCE .", "");
        Cobol.dueBodyFaults(times(41, "IF n1 ") + "NEXT SENTENCE ELSE EXIT . EXIT n1 .", "3@85 1@88");
        Cobol.dueBodyFaults("IF " + times(40, "( ") + "n1 " + times(40, ") ") + "EXIT .", "");
        Cobol.dueBodyFaults("IF " + times(41, "( ") + "n1 " + times(41, ") ") + "EXIT .", "3@41");
        Cobol.dueBodyFaults("IF " + times(40, "NOT ") + "n1 EXIT .", "");
        Cobol.dueBodyFaults("IF " + times(41, "NOT ") + "n1 EXIT .", "3@41");
        Cobol.dueBodyFaults("IF " + times(20, "NOT ( ") + "n1 = 2 " + times(20, ") ") + "EXIT .", "");
        Cobol.dueBodyFaults("IF " + times(20, "NOT ( ") + "NOT n1 = 2 " + times(20, ") ") + "EXIT .", "3@41");
        Cobol.dueBodyFaults("IF n1 = 1 AND " + times(40, "NOT ") + "NOT = 2 EXIT .", "");
        Cobol.dueBodyFaults("COMPUTE n1 = " + times(40, "( ") + "1 " + times(40, ") ") + ".", "");
        Cobol.dueBodyFaults("COMPUTE n1 = " + times(41, "( ") + "1 " + times(41, ") ") + ".", "3@43");
        Cobol.dueBodyFaults(times(39, "IF n1 ") + "IF ( n1 ) COMPUTE n1 = 1 .", "");
        Cobol.dueBodyFaults(times(40, "IF n1 ") + "IF ( n1 ) EXIT .", "3@81");
        Cobol.dueBodyFaults(times(40, "IF n1 ") + "COMPUTE n1 = ( 1 ) .", "3@83");
        Cobol.dueBodyFaults(times(40, "PERFORM ") + "EXIT " + times(40, "END-PERFORM ") + ".", "");
        Cobol.dueBodyFaults(times(41, "PERFORM ") + "EXIT " + times(41, "END-PERFORM ") + ".", "3@41");
        Cobol.dueBodyFaults(times(40, "READ n1 AT END ") + "READ n1 .", "");
        Cobol.dueBodyFaults(times(41, "READ n1 AT END ") + "READ n1 .", "3@164");
        Cobol.dueBodyFaults(times(41, "CALL n1 EXCEPTION ") + "READ n1 .", "3@123");
        Cobol.dueBodyFaults(times(41, "ADD 1 TO n1 SIZE ERROR ") + "READ n1 .", "3@246");
        Cobol.dueBodyFaults(times(40, "EVALUATE 1 WHEN 1 ") + "READ n1 .", "");
        Cobol.dueBodyFaults(times(41, "EVALUATE 1 WHEN 1 ") + "READ n1 .", "3@164");
        Cobol.dueBodyFaults(times(41, "EVALUATE 1 WHEN 1 ") + "END-READ .", "1@164");
    }

    private static void answers() {
        CobolParser parser = Cobol.parsed("TO . " + Cobol.PROGRAM + "END PROGRAM n3 .");
        Cobol.due("faults()", parser.faults(), 2);
        Cobol.due("fault(0, 0)", parser.fault(0, 0), 1);
        Cobol.due("fault(1, 0)", parser.fault(1, 0), 2);
        Cobol.due("fault(1, 1)", parser.fault(1, 1), 10);
        int[][] without = {{2, 0}, {-1, 0}, {0, 2}, {0, -1}, {Integer.MAX_VALUE, 1}, {Integer.MIN_VALUE, 1}};
        for (int[] call : without) {
            Cobol.due("fault(" + call[0] + ", " + call[1] + ")", parser.fault(call[0], call[1]), -1);
        }
        Cobol.due("parses", Cobol.parses(parser) ? 1 : 0, 1);
        Cobol.due("faults() behind no words", parser.faults(), 0);
        Cobol.due("fault(0, 0) behind no words", parser.fault(0, 0), -1);
    }
}
