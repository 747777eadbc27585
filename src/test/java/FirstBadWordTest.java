import java.util.ArrayList;
import java.util.List;
import java.util.Random;

/**
 * "A word that can't be there is BAD, with the whole clause: a FAULT 1 at the first such word", looked at from both
 * sides, in spoilt rows: no word behind the bad one would have let it stand, and the words ahead of it in its clause
 * can be gone on with to a right one.
 */
public final class FirstBadWordTest {
    private static final int ROWS = 1500;
    private static final int MOST_WORDS = 120;
    private static final int MOST_TRIES = 1500;
    private static final int[] PERIOD = {4, 0};

    private static final String[] CLAUSES = {
        "", "ID DIVISION .", "END PROGRAM n1 .", "ENVIRONMENT DIVISION .", "DATA DIVISION .",
        "ENVIRONMENT DIVISION . SELECT n1 ASSIGN TO t1 ORGANIZATION IS INDEXED KEY IS n1 .",
        "DATA DIVISION . FILE SECTION . FD n1 . 1 n1 PIC IS t1 .",
        "DATA DIVISION . WORKING SECTION . 1 FILLER VALUE IS 1 THRU t1 USAGE IS COMP .",
        "DATA DIVISION . LINKAGE SECTION . 77 OCCURS 1 TIMES DEPENDING n1 INDEXED BY n1 n2 REDEFINES n1 .",
        "PROCEDURE DIVISION USING n1 n2 .",
        "PROCEDURE DIVISION . DECLARATIVES . n1 SECTION . n1 . EXIT . END DECLARATIVES .",
    };
    private static final String[] SENTENCES = {
        "MOVE 1 TO n1 n2 .", "ADD 1 n1 TO n1 SIZE ERROR EXIT END-ADD .", "ADD 1 GIVING n1 SIZE ERROR EXIT .",
        "IF n1 THEN NEXT SENTENCE ELSE EXIT END-IF .", "IF 1 = n1 EXIT ELSE NEXT SENTENCE .",
        "IF n1 IS NOT EQUAL TO 1 OR < 2 AND t1 EXIT .", "IF NOT ( n1 OR NOT 1 > 2 ) AND n1 CONTINUE .",
        "PERFORM n1 THRU n2 n3 TIMES .", "PERFORM 1 TIMES EXIT END-PERFORM .", "PERFORM n1 TIMES EXIT END-PERFORM .",
        "PERFORM UNTIL n1 LESS THAN 1 EXIT END-PERFORM .", "PERFORM n1 VARYING n1 FROM 1 BY t1 UNTIL n1 NOT = 1 .",
        "EVALUATE n1 WHEN 1 WHEN OTHER EXIT WHEN t1 EXIT END-EVALUATE .", "READ n1 AT END EXIT END-READ .",
        "CALL t1 USING n1 n2 EXCEPTION EXIT END-CALL .", "DISPLAY n1 1 t1 .", "GO TO n1 .", "STOP RUN .",
        "COMPUTE n1 = ( n1 + 1 ) * 2 - 3 / n2 END-COMPUTE .",
    };

    private static final List<int[]> ALL = new ArrayList<>();
    // What ends statements and brackets comes first, so that clauses are soon gone on with to their period.
    private static final List<int[]> TO_GO_ON = new ArrayList<>();
    private static int tries;

    public static void main(String[] args) {
        fillWords();
        for (String clauses : CLAUSES) {
            spoiltEverywhere(Cobol.PROGRAM + clauses);
        }
        for (String sentence : SENTENCES) {
            spoiltEverywhere(Cobol.BODY + sentence);
        }
        spoiltAtRandom();
        Cobol.end();
    }

    private static void spoiltEverywhere(String source) {
        List<int[]> spoilers = Cobol.words("n1 1 t1 . ( = NOT AND END SECTION");
        List<int[]> right = Cobol.words(source);
        Cobol.due(source, read(right).faults() == 0 || source.contains("ID DIVISION . PROGRAM-ID n1 . ID") ? 1 : 0, 1);
        for (int place = 0; place < right.size(); place++) {
            List<int[]> row = new ArrayList<>(right);
            row.remove(place);
            look(row);
            for (int[] spoiler : spoilers) {
                row.add(place, spoiler);
                look(row);
                row.add(place + 1, right.get(place));
                look(row);
                row.remove(place + 1);
                row.remove(place);
            }
        }
    }

    private static void spoiltAtRandom() {
        Random random = new Random(20261116);
        for (int i = 0; i < ROWS; i++) {
            GeneratedTest.Maker maker = new GeneratedTest.Maker(random);
            maker.row();
            if (maker.words.size() <= MOST_WORDS) {
                List<int[]> row = new ArrayList<>(maker.words);
                for (int left = 1 + random.nextInt(6); left > 0 && !row.isEmpty(); left--) {
                    spoil(row, random);
                }
                look(row);
            }
        }
    }

    private static void fillWords() {
        for (int i = 0; i < Cobol.RESERVED.length; i++) {
            ALL.add(new int[] {0, i});
        }
        ALL.addAll(Cobol.words("n1 1 5 77 88 t1 . ( ) = < > + - * /"));
        TO_GO_ON.addAll(Cobol.words(". ) END-ADD END-IF END-PERFORM END-EVALUATE END-READ END-CALL END-COMPUTE"));
        TO_GO_ON.addAll(Cobol.words("CONTINUE n1 1 t1 ="));
        TO_GO_ON.addAll(ALL.subList(0, Cobol.RESERVED.length));
    }

    private static void spoil(List<int[]> row, Random random) {
        int place = random.nextInt(row.size());
        switch (random.nextInt(4)) {
            case 0:
                row.remove(place);
                break;
            case 1:
                row.set(place, ALL.get(random.nextInt(ALL.size())));
                break;
            case 2:
                row.add(place, ALL.get(random.nextInt(ALL.size())));
                break;
            default:
                dropClause(row, place);
        }
    }

    private static void dropClause(List<int[]> row, int place) {
        int end = place;
        while (end < row.size() - 1 && row.get(end)[0] != 4) {
            end++;
        }
        row.subList(beginOfClause(row, place), end + 1).clear();
    }

    private static int beginOfClause(List<int[]> row, int place) {
        int begin = place;
        while (begin > 0 && row.get(begin - 1)[0] != 4) {
            begin--;
        }
        return begin;
    }

    private static CobolParser read(List<int[]> row) {
        CobolParser parser = new CobolParser();
        Cobol.add(parser, row);
        Cobol.parses(parser);
        return parser;
    }

    private static void look(List<int[]> row) {
        CobolParser parser = read(row);
        for (int i = 0; i < parser.faults(); i++) {
            int place = parser.fault(i, 1);
            if (parser.fault(i, 0) == 1 && place < row.size()) {
                cannotBeThere(row, place, i);
                isTheFirst(row, place);
            }
        }
    }

    private static void cannotBeThere(List<int[]> row, int place, int faultsAhead) {
        List<int[]> begun = new ArrayList<>(row.subList(0, place + 1));
        boolean first = beginOfClause(row, place) == place;
        for (int[] next : ALL) {
            begun.add(next);
            CobolParser parser = read(begun);
            boolean stands = parser.faults() <= faultsAhead || parser.fault(faultsAhead, 1) != place;
            if (stands && !choosesWhatIsAhead(row.get(place), next, first)) {
                Cobol.due("word " + place + " is bad, in " + written(row) + ", but not ahead of " + written(next), 1, 0);
            }
            begun.remove(begun.size() - 1);
        }
        Cobol.due("looked at", 1, 1);
    }

    // Where the document lets the word behind choose: END's clauses, a NAME's SECTION, a NAME with TIMES behind it, a
    // NOT with a comparing word behind it or without one.
    private static boolean choosesWhatIsAhead(int[] bad, int[] next, boolean first) {
        if (bad[0] == 1) {
            return written(next).equals(first ? "SECTION" : "TIMES");
        }
        return written(bad).equals(first ? "END" : "NOT");
    }

    private static void isTheFirst(List<int[]> row, int place) {
        int begin = beginOfClause(row, place);
        boolean goesOn = begin == place;
        for (int most = 2; most <= 12 && !goesOn; most += 2) {
            tries = MOST_TRIES;
            goesOn = canGoOn(new ArrayList<>(row.subList(0, place)), begin, most);
        }
        Cobol.due("words ahead of " + place + " can stand, in " + written(row), goesOn ? 1 : 0, 1);
    }

    private static boolean canGoOn(List<int[]> begun, int begin, int most) {
        if (most == 0 || tries <= 0) {
            return false;
        }
        tries--;
        for (int[] next : TO_GO_ON) {
            begun.add(next);
            boolean stands = !isBadFrom(begun, begin);
            boolean goesOn = stands && (next[0] == PERIOD[0] || canGoOn(begun, begin, most - 1));
            begun.remove(begun.size() - 1);
            if (goesOn) {
                return true;
            }
        }
        return false;
    }

    private static boolean isBadFrom(List<int[]> row, int begin) {
        CobolParser parser = read(row);
        for (int i = 0; i < parser.faults(); i++) {
            int place = parser.fault(i, 1);
            if (place >= begin && place < row.size() && parser.fault(i, 0) != 2) {
                return true;
            }
        }
        return false;
    }

    private static String written(int[] word) {
        switch (word[0]) {
            case 0:
                return Cobol.RESERVED[word[1]];
            case 1:
                return "n" + word[1];
            case 2:
                return Integer.toString(word[1]);
            case 3:
                return "t" + word[1];
            case 4:
                return ".";
            default:
                return Cobol.SIGNS.substring(word[1], word[1] + 1);
        }
    }

    private static String written(List<int[]> row) {
        StringBuilder all = new StringBuilder();
        for (int[] word : row) {
            all.append(all.length() == 0 ? "" : " ").append(written(word));
        }
        return all.toString();
    }
}
