/** Conditions: OR, AND, NOT, brackets, relations, and abbreviations with their subjects. */
public final class ConditionTest {
    public static void main(String[] args) {
        comparing();
        joined();
        negated();
        abbreviated();
        subjects();
        badWords();
        Cobol.end();
    }

    private static void condition(String source, String want) {
        int list = 10 + Cobol.words(source).size();
        Cobol.dueSentence("IF " + source + " EXIT", "28@9(" + want + " 40@" + list + "(36@" + list + "))");
    }

    private static void comparing() {
        String[] ways = {"=", "<", ">", "NOT =", "NOT <", "NOT >", "EQUAL", "LESS", "GREATER", "NOT EQUAL", "NOT LESS",
            "NOT GREATER", "EQUAL TO", "LESS THAN", "GREATER THAN", "NOT EQUAL TO", "NOT LESS THAN", "NOT GREATER THAN"};
        for (int i = 0; i < ways.length; i++) {
            for (String is : new String[] {"", "IS "}) {
                String way = is + ways[i];
                int value = i % 6;
                int other = 11 + Cobol.words(way).size();
                condition("n1 " + way + " t2", "53" + (value == 0 ? "" : ":" + value) + "@10^10(41:100001@10 41:300002@"
                    + other + ")");
            }
        }
    }

    private static void joined() {
        condition("n1 OR n2 OR n3", "50@10(54:1@10 54:2@12 54:3@14)");
        condition("n1 AND n2 AND n3", "51@10(54:1@10 54:2@12 54:3@14)");
        condition("n1 OR n2 AND n3 OR n4", "50@10(54:1@10 51@12(54:2@12 54:3@14) 54:4@16)");
        condition("n1 AND n2 OR n3", "50@10(51@10(54:1@10 54:2@12) 54:3@14)");
        condition("( n1 OR n2 ) AND n3", "51@11(50@11(54:1@11 54:2@13) 54:3@16)");
        condition("( n1 OR n2 ) OR n3", "50@11(50@11(54:1@11 54:2@13) 54:3@16)");
        condition("( ( n1 ) )", "54:1@12");
    }

    private static void negated() {
        condition("NOT n1", "52@10(54:1@11)");
        condition("NOT NOT n1 = 2", "52@10(52@11(53@12^12(41:100001@12 41:200002@14)))");
        condition("NOT ( n1 AND n2 ) OR n3", "50@10(52@10(51@12(54:1@12 54:2@14)) 54:3@17)");
        condition("NOT n1 AND n2", "51@10(52@10(54:1@11) 54:2@13)");
    }

    private static void abbreviated() {
        condition("n1 = 2 OR 3 AND t4",
            "50@10(53@10^10(41:100001@10 41:200002@12) 51@14(53@14^10(41:200003@14) 53@16^10(41:300004@16)))");
        condition("n1 NOT < 2 OR > 3 AND n4",
            "50@10(53:4@10^10(41:100001@10 41:200002@13) 51@15(53:2@15^10(41:200003@16) 53:2@18^10(41:100004@18)))");
        condition("n1 = 2 OR NOT 3 OR NOT > 4 OR NOT 5",
            "50@10(53@10^10(41:100001@10 41:200002@12) 52@14(53@15^10(41:200003@15)) 53:5@17^10(41:200004@19) "
                + "52@21(53:5@22^10(41:200005@22)))");
        condition("n1 = 2 OR IS NOT LESS THAN n3",
            "50@10(53@10^10(41:100001@10 41:200002@12) 53:4@14^10(41:100003@18))");
        condition("n1 = 2 OR NOT IS LESS n3",
            "50@10(53@10^10(41:100001@10 41:200002@12) 52@14(53:1@15^10(41:100003@17)))");
        condition("n1 = 2 OR EQUAL TO 3",
            "50@10(53@10^10(41:100001@10 41:200002@12) 53@14^10(41:200003@16))");
    }

    private static void subjects() {
        condition("n1 = 2 OR 3 > 4 OR 5",
            "50@10(53@10^10(41:100001@10 41:200002@12) 53:2@14^14(41:200003@14 41:200004@16) 53:2@18^14(41:200005@18))");
        condition("n1 = 2 OR ( n3 ) OR n4",
            "50@10(53@10^10(41:100001@10 41:200002@12) 54:3@15 54:4@18)");
        condition("( n1 = 2 OR 3 ) OR n4",
            "50@11(50@11(53@11^11(41:100001@11 41:200002@13) 53@15^11(41:200003@15)) 54:4@18)");
        condition("n1 OR n2 = 3 OR n4",
            "50@10(54:1@10 53@12^12(41:100002@12 41:200003@14) 53@16^12(41:100004@16))");
        condition("NOT n1 = 2 AND 3",
            "51@10(52@10(53@11^11(41:100001@11 41:200002@13)) 53@15^11(41:200003@15))");
        condition("t1 < n2 AND n3",
            "51@10(53:1@10^10(41:300001@10 41:100002@12) 53:1@14^10(41:100003@14))");
        // A condition begins without the subject of the one ahead of it.
        Cobol.dueSentence("IF n1 = 2 IF n3 EXIT", "28@9(53@10^10(41:100001@10 41:200002@12) "
            + "40@13(28@13(54:3@14 40@15(36@15))))");
        CobolParser parser = Cobol.parsed(Cobol.BODY + "IF n1 = 2 OR 3 EXIT .");
        Cobol.due("the OR", parser.node(4, 0), 50);
        Cobol.due("subject of the first", parser.node(5, 5), 6);
        Cobol.due("subject of the second", parser.node(8, 5), 6);
        Cobol.due("children of the second", parser.node(8, 3), 1);
    }

    private static void badWords() {
        String[][] rows = {
            {"IF EXIT .", "1@1"}, {"IF = 2 EXIT .", "1@1"}, {"IF IS = 2 EXIT .", "1@1"}, {"IF NOT = 2 EXIT .", "1@1"},
            {"IF NOT IS = 2 EXIT .", "1@2"}, {"IF NOT NOT = 2 EXIT .", "1@2"}, {"IF LESS THAN 2 EXIT .", "1@1"},
            {"IF 2 EXIT .", "1@2"}, {"IF t2 .", "1@2"}, {"IF n1 OR 2 EXIT .", "1@4"}, {"IF 2 3 EXIT .", "1@2"},
            {"IF n1 OR EXIT .", "1@3"}, {"IF n1 AND .", "1@3"}, {"IF n1 = EXIT .", "1@3"}, {"IF n1 IS n2 .", "1@3"},
            {"IF n1 IS NOT n2 .", "1@4"}, {"IF n1 IS ( n2 .", "1@3"}, {"IF n1 IS + n2 .", "1@3"},
            {"IF n1 IS 2 .", "1@3"}, {"IF n1 IS t3 4 .", "1@3"}, {"IF n1 + 2 .", "1@2"},
            {"IF n1 NOT n2 .", "1@2"}, {"IF n1 = ( n2 ) .", "1@3"},
            {"IF n1 = 2 3 .", "1@4"}, {"IF n1 EQUAL THAN 3 .", "1@3"}, {"IF n1 LESS TO 3 .", "1@3"},
            {"IF n1 = = 3 .", "1@3"}, {"IF ( n1 EXIT .", "1@3"}, {"IF n1 ) EXIT .", "1@2"}, {"IF ( ) EXIT .", "1@2"},
            {"IF n1 = 2 OR ( 3 ) EXIT .", "1@7"}, {"IF n1 = 2 OR ( > 3 ) EXIT .", "1@6"},
            {"IF ( n1 = 2 ) OR 3 EXIT .", "1@8"}, {"IF ( n1 = 2 ) OR > 3 EXIT .", "1@7"},
            {"IF n1 = 2 EXIT . IF = 3 EXIT .", "1@7"}, {"IF n1 = 2 IF > 3 EXIT .", "1@5"},
            {"PERFORM n1 UNTIL = 3 .", "1@3"}, {"IF NOT EXIT .", "1@2"}, {"IF NOT", "1@2"}, {"IF n1 NOT", "1@2"},
        };
        for (String[] row : rows) {
            Cobol.dueBodyFaults(row[0], row[1]);
        }
    }
}
