import java.util.ArrayList;
import java.util.List;

/** What the tests share: words from a text, trees as texts, and the counting of wrong answers. */
final class Cobol {
    static final String[] RESERVED = ("ID DIVISION PROGRAM-ID FUNCTION-ID ENVIRONMENT SELECT ASSIGN ORGANIZATION "
        + "SEQUENTIAL RELATIVE INDEXED KEY DATA FILE WORKING LINKAGE SECTION FD FILLER PIC VALUE THRU OCCURS TIMES "
        + "DEPENDING BY REDEFINES USAGE COMP DISPLAY PROCEDURE USING DECLARATIVES END PROGRAM FUNCTION MOVE ADD IF "
        + "PERFORM EVALUATE READ CALL GO STOP EXIT CONTINUE COMPUTE TO GIVING SIZE ERROR THEN ELSE NEXT SENTENCE UNTIL "
        + "VARYING FROM WHEN OTHER AT EXCEPTION RUN NOT AND OR IS EQUAL GREATER LESS THAN END-ADD END-IF END-PERFORM "
        + "END-EVALUATE END-READ END-CALL END-COMPUTE").split(" ");
    static final String SIGNS = "()=<>+-*/";
    static final String PROGRAM = "ID DIVISION . PROGRAM-ID n1 . ";
    static final String BODY = PROGRAM + "PROCEDURE DIVISION . ";

    private static int wrong = 0;
    private static int checks = 0;

    private Cobol() {
    }

    static int reserved(String written) {
        for (int i = 0; i < RESERVED.length; i++) {
            if (RESERVED[i].equals(written)) {
                return i;
            }
        }
        throw new IllegalArgumentException(written);
    }

    /** n7 is a NAME, 7 a NUMBER, 't7' without its last quote a TEXT, the rest is written as in the document. */
    static int[] word(String written) {
        char first = written.charAt(0);
        if (written.equals(".")) {
            return new int[] {4, 0};
        }
        if (written.length() == 1 && SIGNS.indexOf(first) >= 0) {
            return new int[] {5, SIGNS.indexOf(first)};
        }
        if (Character.isDigit(first)) {
            return new int[] {2, Integer.parseInt(written)};
        }
        if (first == 'n' || first == 't') {
            return new int[] {first == 'n' ? 1 : 3, Integer.parseInt(written.substring(1))};
        }
        return new int[] {0, reserved(written)};
    }

    static List<int[]> words(String source) {
        List<int[]> all = new ArrayList<>();
        for (String written : source.trim().split("\\s+")) {
            if (!written.isEmpty()) {
                all.add(word(written));
            }
        }
        return all;
    }

    static void add(CobolParser parser, List<int[]> words) {
        for (int[] word : words) {
            parser.word(word[0], word[1]);
        }
    }

    static boolean parses(CobolParser parser) {
        try {
            parser.parse();
            return true;
        } catch (IllegalStateException faulty) {
            return false;
        }
    }

    static CobolParser parsed(String source) {
        CobolParser parser = new CobolParser();
        add(parser, words(source));
        parses(parser);
        return parser;
    }

    /** Each fault as number@word. */
    static String faults(CobolParser parser) {
        StringBuilder all = new StringBuilder();
        for (int i = 0; i < parser.faults(); i++) {
            all.append(i == 0 ? "" : " ").append(parser.fault(i, 0)).append('@').append(parser.fault(i, 1));
        }
        return all.toString();
    }

    /** A node as kind:value@word, with ! for a scope end that stands there, ^word for a subject, and its children. */
    static String dump(CobolParser parser, int i) {
        StringBuilder text = new StringBuilder();
        text.append(parser.node(i, 0));
        if (parser.node(i, 1) != 0) {
            text.append(':').append(parser.node(i, 1));
        }
        text.append('@').append(parser.node(i, 2));
        int extra = parser.node(i, 5);
        int kind = parser.node(i, 0);
        if (kind == 53) {
            text.append('^').append(parser.node(extra, 2));
        } else if (extra == 1) {
            text.append('!');
        }
        int children = parser.node(i, 3);
        for (int k = 0; k < children; k++) {
            text.append(k == 0 ? "(" : " ").append(dump(parser, parser.child(i, k)));
        }
        return text.append(children > 0 ? ")" : "").toString();
    }

    static String dump(CobolParser parser) {
        StringBuilder text = new StringBuilder();
        for (int i = 0; i < parser.count(1); i++) {
            if (parser.node(i, 4) == CobolParser.NONE) {
                text.append(text.length() == 0 ? "" : " ").append(dump(parser, i));
            }
        }
        return text.toString();
    }

    static void due(String call, long got, long want) {
        due(call, Long.toString(got), Long.toString(want));
    }

    static void due(String call, String got, String want) {
        checks++;
        if (!got.equals(want)) {
            wrong++;
            System.out.println(call + "\n  answered " + got + "\n  due is   " + want);
        }
    }

    static void dueFaults(String source, String want) {
        CobolParser parser = parsed(source);
        due("faults of " + source, faults(parser), want);
        due("nodes of " + source, parser.count(1) > 0 ? 1 : 0, want.isEmpty() && !source.trim().isEmpty() ? 1 : 0);
    }

    /** The words from the 9th on of a program whose PROCEDURE DIVISION is empty; faults count from there too. */
    static void dueBodyFaults(String body, String want) {
        CobolParser parser = parsed(BODY + body);
        StringBuilder all = new StringBuilder();
        for (int i = 0; i < parser.faults(); i++) {
            all.append(i == 0 ? "" : " ").append(parser.fault(i, 0)).append('@').append(parser.fault(i, 1) - 9);
        }
        due("faults of " + body, all.toString(), want);
    }

    static void dueTree(String source, String want) {
        CobolParser parser = parsed(source);
        due("tree of " + source, faults(parser).isEmpty() ? dump(parser) : "faults " + faults(parser), want);
    }

    /** The children of the PROCEDURE DIVISION, for the words from the 9th on; places count from 0 of the program. */
    static void dueBody(String body, String want) {
        dueTree(BODY + body, "1:1@0(20@6(" + want + "))");
    }

    /** The statements of a single sentence. */
    static void dueSentence(String statements, String want) {
        dueBody(statements + " .", "25@9(" + want + ")");
    }

    static void end() {
        System.out.println(checks + " answers looked at, " + wrong + " wrong");
        if (wrong != 0 || checks == 0) {
            System.exit(1);
        }
    }
}
