/** Statements, their formats, scope ends, lists, and the words that are bad in them. */
public final class StatementTest {
    public static void main(String[] args) {
        simple();
        adding();
        branches();
        performing();
        evaluating();
        readingAndCalling();
        computing();
        badWords();
        Cobol.end();
    }

    private static void simple() {
        Cobol.dueSentence("MOVE t1 TO n2 n3", "26@9(41:300001@10 41:100002@12 41:100003@13)");
        Cobol.dueSentence("DISPLAY n1 2 t3", "33@9(41:100001@10 41:200002@11 41:300003@12)");
        Cobol.dueSentence("GO n4 GO TO n5", "34:4@9 34:5@11");
        Cobol.dueSentence("STOP RUN EXIT CONTINUE", "35@9 36@11 37@12");
        Cobol.dueBody("EXIT CONTINUE . EXIT .", "25@9(36@9 37@10) 25@12(36@12)");
    }

    private static void adding() {
        Cobol.dueSentence("ADD 1 TO n2", "27@9(41:200001@10 41:100002@12)");
        Cobol.dueSentence("ADD n1 2 t3 TO n2 n3 END-ADD",
            "27@9!(41:100001@10 41:200002@11 41:300003@12 41:100002@14 41:100003@15)");
        Cobol.dueSentence("ADD 1 GIVING n2 SIZE ERROR EXIT EXIT END-ADD EXIT",
            "27:1@9!(41:200001@10 41:100002@12 40@15(36@15 36@16)) 36@18");
        Cobol.dueSentence("ADD 1 TO n2 SIZE ERROR ADD 1 TO n2 SIZE ERROR EXIT END-ADD EXIT",
            "27@9(41:200001@10 41:100002@12 "
                + "40@15(27@15!(41:200001@16 41:100002@18 40@21(36@21)) 36@23))");
    }

    private static void branches() {
        Cobol.dueSentence("IF n1 EXIT", "28@9(54:1@10 40@11(36@11))");
        Cobol.dueSentence("IF n1 THEN EXIT ELSE NEXT SENTENCE END-IF EXIT",
            "28@9!(54:1@10 40@12(36@12) 42@14) 36@17");
        Cobol.dueSentence("IF n1 NEXT SENTENCE ELSE EXIT", "28@9(54:1@10 42@11 40@14(36@14))");
        Cobol.dueSentence("IF n1 IF n2 EXIT ELSE EXIT END-IF ELSE EXIT",
            "28@9(54:1@10 40@11(28@11!(54:2@12 40@13(36@13) 40@15(36@15))) 40@18(36@18))");
        Cobol.dueSentence("IF n1 IF n2 EXIT ELSE EXIT ELSE EXIT",
            "28@9(54:1@10 40@11(28@11(54:2@12 40@13(36@13) 40@15(36@15))) 40@17(36@17))");
    }

    private static void performing() {
        Cobol.dueSentence("PERFORM n1 PERFORM n1 THRU n2", "29@9(41:100001@10) 29@11(41:100001@12 41:100002@14)");
        Cobol.dueSentence("PERFORM n1 3 TIMES PERFORM n1 n2 TIMES",
            "29@9(41:100001@10 43@11(41:200003@11)) 29@13(41:100001@14 43@15(41:100002@15))");
        Cobol.dueSentence("PERFORM n1 THRU n2 UNTIL n3 EXIT",
            "29@9(41:100001@10 41:100002@12 44@13(54:3@14)) 36@15");
        Cobol.dueSentence("PERFORM n1 VARYING n2 FROM t3 BY n4 UNTIL n5",
            "29@9(41:100001@10 45@11(41:100002@12 41:300003@14 41:100004@16 54:5@18))");
        Cobol.dueSentence("PERFORM EXIT END-PERFORM", "29:1@9!(40@10(36@10))");
        Cobol.dueSentence("PERFORM 3 TIMES EXIT EXIT END-PERFORM PERFORM n1 TIMES EXIT END-PERFORM",
            "29:1@9!(43@10(41:200003@10) 40@12(36@12 36@13)) 29:1@15!(43@16(41:100001@16) 40@18(36@18))");
        Cobol.dueSentence("PERFORM UNTIL n1 PERFORM n2 END-PERFORM",
            "29:1@9!(44@10(54:1@11) 40@12(29@12(41:100002@13)))");
        Cobol.dueSentence("PERFORM VARYING n2 FROM 1 BY 1 UNTIL n5 EXIT END-PERFORM",
            "29:1@9!(45@10(41:100002@11 41:200001@13 41:200001@15 54:5@17) 40@18(36@18))");
    }

    private static void evaluating() {
        Cobol.dueSentence("EVALUATE n1 WHEN 1 WHEN t2 EXIT EXIT WHEN OTHER WHEN n3 EXIT END-EVALUATE",
            "30@9!(41:100001@10 46@11(41:200001@12 41:300002@14 40@15(36@15 36@16)) "
                + "46@17(47@18 41:100003@20 40@21(36@21)))");
        Cobol.dueSentence("EVALUATE 1 WHEN 1 EVALUATE 2 WHEN 2 EXIT WHEN 3 EXIT",
            "30@9(41:200001@10 46@11(41:200001@12 40@13(30@13(41:200002@14 46@15(41:200002@16 40@17(36@17)) "
                + "46@18(41:200003@19 40@20(36@20))))))");
    }

    private static void readingAndCalling() {
        Cobol.dueSentence("READ n1 READ n2 END-READ", "31:1@9 31:2@11!");
        Cobol.dueSentence("READ n1 AT END READ n2 AT END EXIT END-READ END-READ EXIT",
            "31:1@9!(40@13(31:2@13!(40@17(36@17)))) 36@20");
        Cobol.dueSentence("CALL t1 CALL n2 USING n3 n4 END-CALL",
            "32@9(41:300001@10) 32@11!(41:100002@12 21:3@14 21:4@15)");
        Cobol.dueSentence("CALL t1 USING n3 EXCEPTION EXIT EXIT END-CALL EXIT",
            "32@9!(41:300001@10 21:3@12 40@14(36@14 36@15)) 36@17");
        Cobol.dueSentence("CALL n1 EXCEPTION EXIT", "32@9(41:100001@10 40@12(36@12))");
    }

    private static void computing() {
        Cobol.dueSentence("COMPUTE n1 = 2", "38:1@9(41:200002@12)");
        Cobol.dueSentence("COMPUTE n1 = n2 - 3 - 4 END-COMPUTE",
            "38:1@9!(55:6@12(55:6@12(41:100002@12 41:200003@14) 41:200004@16))");
        Cobol.dueSentence("COMPUTE n1 = n2 + 3 * 4 / 5 - 6",
            "38:1@9(55:6@12(55:5@12(41:100002@12 55:8@14(55:7@14(41:200003@14 41:200004@16) 41:200005@18)) "
                + "41:200006@20))");
        Cobol.dueSentence("COMPUTE n1 = ( ( n2 ) + 3 ) * ( 4 - ( 5 ) )",
            "38:1@9(55:7@14(55:5@14(41:100002@14 41:200003@17) 55:6@21(41:200004@21 41:200005@24)))");
    }

    private static void badWords() {
        String[][] rows = {
            {"MOVE n1 n2 .", "1@2"}, {"MOVE TO n2 .", "1@1"}, {"MOVE 1 TO 2 .", "1@3"}, {"MOVE 1 TO n2 3 .", "1@4"},
            {"ADD TO n1 .", "1@1"}, {"ADD 1 .", "1@2"}, {"ADD 1 TO 2 .", "1@3"}, {"ADD 1 GIVING n1 n2 .", "1@4"},
            {"ADD 1 TO n1 GIVING n2 .", "1@4"}, {"ADD 1 TO n1 SIZE EXIT .", "1@5"}, {"ADD 1 TO n1 SIZE ERROR .", "1@6"},
            {"ADD 1 TO n1 ERROR EXIT .", "1@4"}, {"ADD 1 TO n1 END-IF .", "1@4"},
            {"IF n1 .", "1@2"}, {"IF n1 THEN .", "1@3"}, {"IF n1 NEXT EXIT .", "1@3"}, {"IF n1 EXIT ELSE .", "1@4"},
            {"IF n1 EXIT ELSE EXIT ELSE EXIT .", "1@5"}, {"IF n1 EXIT END-IF END-IF .", "1@4"},
            {"IF n1 NEXT SENTENCE EXIT .", ""}, {"IF n1 NEXT SENTENCE NEXT SENTENCE .", "1@4"},
            {"PERFORM .", "1@1"}, {"PERFORM EXIT .", "1@2"}, {"PERFORM 3 EXIT END-PERFORM .", "1@2"},
            {"PERFORM n1 n2 .", "1@2"}, {"PERFORM n1 THRU 3 .", "1@3"}, {"PERFORM n1 THRU n2 TIMES .", "1@4"},
            {"PERFORM n1 3 .", "1@3"}, {"PERFORM n1 TIMES .", "1@3"}, {"PERFORM n1 END-PERFORM .", "1@2"},
            {"PERFORM n1 UNTIL .", "1@3"}, {"PERFORM UNTIL n1 END-PERFORM .", "1@3"},
            {"PERFORM n1 VARYING 2 FROM .", "1@3"}, {"PERFORM n1 VARYING n2 BY .", "1@4"},
            {"PERFORM n1 VARYING n2 FROM 1 UNTIL n1 .", "1@6"}, {"PERFORM n1 VARYING n2 FROM 1 BY 1 EXIT .", "1@8"},
            {"PERFORM t1 EXIT END-PERFORM .", "1@1"}, {"PERFORM n1 3 TIMES UNTIL n1 .", "1@4"},
            {"EVALUATE WHEN 1 EXIT .", "1@1"}, {"EVALUATE n1 .", "1@2"}, {"EVALUATE n1 EXIT .", "1@2"},
            {"EVALUATE n1 WHEN EXIT .", "1@3"}, {"EVALUATE n1 WHEN 1 .", "1@4"}, {"EVALUATE n1 WHEN 1 2 EXIT .", "1@4"},
            {"EVALUATE n1 WHEN 1 END-EVALUATE .", "1@4"}, {"EVALUATE n1 WHEN 1 EXIT END-READ .", "1@5"},
            {"READ 1 .", "1@1"}, {"READ n1 AT EXIT .", "1@3"}, {"READ n1 AT END .", "1@4"}, {"READ n1 END EXIT .", "1@2"},
            {"CALL 1 .", "1@1"}, {"CALL .", "1@1"}, {"CALL t1 USING 2 .", "1@3"}, {"CALL t1 EXCEPTION n1 .", "1@3"},
            {"CALL t1 EXCEPTION EXIT USING n1 .", "1@4"},
            {"DISPLAY .", "1@1"}, {"DISPLAY n1 ( .", "1@2"}, {"GO .", "1@1"}, {"GO TO TO n1 .", "1@2"},
            {"GO n1 n2 .", "1@2"}, {"STOP .", "1@1"}, {"EXIT n1 .", "1@1"}, {"CONTINUE RUN .", "1@1"},
            {"COMPUTE 1 = 2 .", "1@1"}, {"COMPUTE n1 EQUAL 2 .", "1@2"}, {"COMPUTE n1 = t2 .", "1@3"},
            {"COMPUTE n1 = .", "1@3"}, {"COMPUTE n1 = ( 2 .", "1@5"}, {"COMPUTE n1 = 2 ) .", "1@4"},
            {"COMPUTE n1 = 2 + * 3 .", "1@5"}, {"COMPUTE n1 = - 2 .", "1@3"}, {"COMPUTE n1 = 2 3 .", "1@4"},
            {"COMPUTE n1 = ( ) .", "1@4"}, {"EXIT EXIT", "1@2"}, {"MOVE", "1@1"}, {"END-IF .", "1@0"},
        };
        for (String[] row : rows) {
            Cobol.dueBodyFaults(row[0], row[1]);
        }
    }
}
