import java.util.List;

/**
 * The document read sentence by sentence: each one that names a boundary case (too small, too large, empty, full, a
 * refused call) has a method of its own, with the sentence above it.
 */
public final class BoundaryTest {
    private static final String P = Cobol.PROGRAM;
    private static final String B = Cobol.BODY;
    private static final String W = P + "DATA DIVISION . WORKING SECTION . ";
    private static final String F = "ID DIVISION . FUNCTION-ID n1 . ";

    public static void main(String[] args) {
        words();
        clausesAndStates();
        unitsAndTheirEnds();
        levels();
        statements();
        conditions();
        nestings();
        valuesAndPlaces();
        answers();
        Cobol.end();
    }

    private static String times(int count, String text) {
        StringBuilder all = new StringBuilder();
        for (int i = 0; i < count; i++) {
            all.append(text);
        }
        return all.toString();
    }

    private static void words() {
        wordsOfAWholeRun();
        refusedWordsAreNone();
        fullRow();
        periodsOfAnyValue();
        noneAreLeft();
        endsOfRows();
    }

    // "An object is used for at most 512 calls": the longest row that such a run can hold.
    private static void wordsOfAWholeRun() {
        CobolParser parser = new CobolParser();
        Cobol.add(parser, Cobol.words(B + times(501, "EXIT ") + "."));
        Cobol.due("words of 511 calls", parser.count(0), 511);
        Cobol.due("parse() as the 512th", parser.parse(), 1);
        Cobol.due("its nodes", parser.count(1), 3 + 501);
    }

    // "-4 no such kind or value": it is no word more, and the numbers of the others are as without it.
    private static void refusedWordsAreNone() {
        CobolParser parser = new CobolParser();
        int[][] refused = {{0, -1}, {0, 79}, {1, -1}, {1, 100}, {2, -1}, {2, 100000}, {3, -1}, {3, 100}, {5, -1},
            {5, 9}, {-1, 0}, {6, 0}, {Integer.MIN_VALUE, 0}, {Integer.MAX_VALUE, 0}};
        int count = 0;
        for (int[] word : Cobol.words(B + "EXIT .")) {
            for (int[] bad : refused) {
                Cobol.due("word(" + bad[0] + ", " + bad[1] + ")", parser.word(bad[0], bad[1]), -4);
            }
            count++;
            Cobol.due("the word behind them", parser.word(word[0], word[1]), count);
        }
        Cobol.due("count(0)", parser.count(0), 11);
        Cobol.due("parse()", parser.parse(), 1);
        Cobol.due("tree", Cobol.dump(parser), "1:1@0(20@6(25@9(36@9)))");
    }

    // "at most 1,500", "NONE there are 1,500".
    private static void fullRow() {
        CobolParser parser = new CobolParser();
        Cobol.add(parser, Cobol.words(B + times(1490, "EXIT ")));
        Cobol.due("the 1,500th", parser.word(4, 0), 1500);
        Cobol.due("one more", parser.word(4, 0), -1);
        Cobol.due("one more of another kind", parser.word(1, 99), -1);
        Cobol.due("no such word", parser.word(1, 100), -4);
        Cobol.due("count(0)", parser.count(0), 1500);
        Cobol.due("parse()", parser.parse(), 1);
        Cobol.due("nodes", parser.count(1), 3 + 1490);
        Cobol.due("a word behind it", parser.word(4, 0), 1);
    }

    // "4 PERIOD (.), its VALUE is not looked at".
    private static void periodsOfAnyValue() {
        CobolParser parser = new CobolParser();
        int[] values = {Integer.MIN_VALUE, -1, 67, 100000, Integer.MAX_VALUE};
        int next = 0;
        for (int[] word : Cobol.words(P + "DATA DIVISION . WORKING SECTION . 1 .")) {
            parser.word(word[0], word[0] == 4 ? values[next++] : word[1]);
        }
        Cobol.due("parse()", parser.parse(), 1);
        Cobol.due("tree", Cobol.dump(parser), "1:1@0(7@6(9@9(12:1000@12)))");
    }

    // "Reads the words, of which none are left then", with faults and without.
    private static void noneAreLeft() {
        CobolParser parser = Cobol.parsed(P + "TO .");
        Cobol.due("words behind faults", parser.count(0), 0);
        Cobol.add(parser, Cobol.words("ID DIVISION"));
        Cobol.due("parses", Cobol.parses(parser) ? 1 : 0, 0);
        Cobol.due("faults are of these words alone", Cobol.faults(parser), "1@2");
        Cobol.due("parse() of no words", parser.parse(), 0);
        Cobol.due("faults of no words", parser.faults(), 0);
    }

    // The same: what an earlier row had behind the end of a later one is not seen there, whatever the row's length.
    private static void endsOfRows() {
        String source = B + "IF n1 = 1 OR n2 NOT > 3 AND ( n4 IS LESS THAN 5 ) MOVE 1 TO n1 n2 ELSE NEXT SENTENCE END-IF . "
            + "COMPUTE n1 = 2 + 3 * ( n4 - 5 ) END-COMPUTE PERFORM n1 THRU n2 3 TIMES PERFORM n1 n2 TIMES "
            + "ADD 1 n1 TO n2 n3 SIZE ERROR GO TO n1 END-ADD DISPLAY n1 2 t3 . END PROGRAM n1 .";
        List<int[]> words = Cobol.words(source);
        CobolParser used = new CobolParser();
        for (int size = words.size(); size >= 0; size--) {
            CobolParser fresh = new CobolParser();
            Cobol.add(fresh, words.subList(0, size));
            Cobol.parses(fresh);
            Cobol.add(used, words);
            Cobol.parses(used);
            Cobol.add(used, words.subList(0, size));
            Cobol.parses(used);
            Cobol.due("faults of " + size + " words of " + source, Cobol.faults(used), Cobol.faults(fresh));
            Cobol.due("tree of " + size + " words of " + source, Cobol.dump(used), Cobol.dump(fresh));
        }
        for (String last : new String[] {"IF n1", "IF NOT", "IF 1", "MOVE 1", "COMPUTE n1 = 1", "PERFORM n1", "END",
            "DISPLAY 1", "n1", "EXIT"}) {
            int ahead = 9 + Cobol.words(last).size() + 1;
            for (int size : new int[] {32, 63, 64, 65, 127, 128, 129, 255, 256, 257, 500, 1499, 1500}) {
                Cobol.dueFaults(B + times(size - ahead, "EXIT ") + ". " + last, "1@" + size);
            }
        }
    }

    private static void clausesAndStates() {
        badClausesChangeNothing();
        secondWordsChoose();
        firstBadWord();
        behindTheNextPeriod();
        twentyFaults();
    }

    // "a clause that is BAD changes nothing": each is bad at its end, then come those that tell the state of before.
    private static void badClausesChangeNothing() {
        Cobol.dueFaults("ID DIVISION TO . PROGRAM-ID n1 . " + P, "1@2 1@4");
        Cobol.dueFaults("ID DIVISION . PROGRAM-ID n1 TO . FUNCTION-ID n2 . END FUNCTION n2 .", "1@5");
        Cobol.dueFaults(P + "ENVIRONMENT DIVISION TO . SELECT n1 ASSIGN n1 . ENVIRONMENT DIVISION .", "1@8 1@10");
        Cobol.dueFaults(P + "ENVIRONMENT DIVISION . DATA DIVISION TO . SELECT n1 ASSIGN n1 .", "1@11");
        Cobol.dueFaults(P + "DATA DIVISION . WORKING SECTION TO . FILE SECTION .", "1@11");
        Cobol.dueFaults(P + "DATA DIVISION . FILE SECTION TO . FD n1 . FILE SECTION . FD n1 TO . 1 .",
            "1@11 1@13 1@21 1@23");
        Cobol.dueFaults(P + "DATA DIVISION . LINKAGE SECTION TO . WORKING SECTION . 1 .", "1@11");
        Cobol.dueFaults(W + "PROCEDURE DIVISION TO . 1 . PROCEDURE DIVISION USING n1 TO . 1 .", "1@14 1@22");
        Cobol.dueBodyFaults("DECLARATIVES TO . n1 . END DECLARATIVES .", "1@1 1@5");
        Cobol.dueBodyFaults("DECLARATIVES . END DECLARATIVES TO . END DECLARATIVES .", "1@4");
        Cobol.dueBodyFaults("DECLARATIVES . n1 SECTION TO . n2 . n1 SECTION . n2 .  END DECLARATIVES .", "1@4 1@6");
        Cobol.dueBodyFaults("n1 SECTION TO . n1 TO . EXIT TO . DECLARATIVES . END DECLARATIVES .", "1@2 1@5 1@8");
        Cobol.dueFaults(P + "END PROGRAM n1 TO . DATA DIVISION . END PROGRAM n1 .", "1@9");
        Cobol.dueFaults(P + "ID DIVISION TO . DATA DIVISION . ID TO . WORKING SECTION .", "1@8 1@14");
        // One whose contained unit was bad contains none: it may be open at the end.
        Cobol.dueFaults(P + "ID DIVISION TO .", "1@8");
    }

    // "(END DECLARATIVES, END PROGRAM, a NAME's SECTION are chosen by the second word; ..)": not by the state, so that
    // the clause's first word is the one that can't be there.
    private static void secondWordsChoose() {
        Cobol.dueBodyFaults("DECLARATIVES . END PROGRAM n1 . END FUNCTION n1 . END DECLARATIVES .", "1@2 1@6");
        Cobol.dueBodyFaults("DECLARATIVES . n1 . n1 EXIT . EXIT . END DECLARATIVES .", "1@2 1@4 1@7");
        Cobol.dueBodyFaults("DECLARATIVES . n1 SECTION . n1 . EXIT . END DECLARATIVES .", "");
        Cobol.dueBodyFaults("END DECLARATIVES . EXIT . END DECLARATIVES .", "1@0 1@5");
        Cobol.dueFaults("END PROGRAM n1 . END FUNCTION n1 . END DECLARATIVES . n1 SECTION . n1 . EXIT .",
            "1@0 1@4 1@8 1@11 1@14 1@16");
        Cobol.dueFaults("ID DIVISION . END PROGRAM n1 . PROGRAM-ID n1 .", "1@3");
        // END may come here with another word behind it: that one is bad.
        Cobol.dueFaults(P + "END FUNCTION n1 . END TO . END . END", "1@7 1@11 1@14 1@16");
        Cobol.dueFaults(F + "END PROGRAM n1 . END FUNCTION n1 .", "1@7");
        Cobol.dueBodyFaults("DECLARATIVES . END TO . END DECLARATIVES .", "1@3");
        // What begins with a statement's word is a SENTENCE, DISPLAY too, though it is a word of USAGE.
        Cobol.dueFaults(W + "DISPLAY . 1 USAGE DISPLAY .", "1@12");
        Cobol.dueFaults(P + P + "END PROGRAM n1 . EXIT . n1 SECTION . END PROGRAM n1 .", "1@16 1@18");
    }

    // "a FAULT 1 at the first such word (also the end of all, numbered as one more)".
    private static void firstBadWord() {
        Cobol.dueFaults("ID", "1@1");
        Cobol.dueFaults("ID DIVISION", "1@2");
        Cobol.dueFaults("ID DIVISION . PROGRAM-ID", "1@4 1@4");
        Cobol.dueFaults("ID DIVISION . PROGRAM-ID n1", "1@5 1@5");
        Cobol.dueFaults("ID DIVISION . PROGRAM-ID 1 2 3 .", "1@4 1@8");
        dueAtTheEnd(P, "ENVIRONMENT", "ENVIRONMENT DIVISION", "DATA", "DATA DIVISION", "PROCEDURE", "PROCEDURE DIVISION",
            "PROCEDURE DIVISION USING", "PROCEDURE DIVISION USING n1", "END", "END PROGRAM", "END PROGRAM n1", "ID",
            "ID DIVISION");
        dueAtTheEnd(P + "ENVIRONMENT DIVISION . ", "SELECT", "SELECT n1", "SELECT n1 ASSIGN", "SELECT n1 ASSIGN TO",
            "SELECT n1 ASSIGN n1", "SELECT n1 ASSIGN n1 ORGANIZATION", "SELECT n1 ASSIGN n1 ORGANIZATION IS",
            "SELECT n1 ASSIGN n1 ORGANIZATION INDEXED", "SELECT n1 ASSIGN n1 KEY", "SELECT n1 ASSIGN n1 KEY IS",
            "SELECT n1 ASSIGN n1 KEY n1");
        dueAtTheEnd(P + "DATA DIVISION . FILE SECTION . ", "FD", "FD n1", "FD n1 . 1");
        dueAtTheEnd(W, "1", "1 n1", "1 FILLER", "1 PIC", "1 PIC IS", "1 PIC t1", "1 VALUE", "1 VALUE 1 THRU",
            "1 OCCURS", "1 OCCURS 1", "1 OCCURS 1 DEPENDING", "1 OCCURS 1 INDEXED", "1 OCCURS 1 INDEXED BY",
            "1 OCCURS 1 INDEXED n1", "1 REDEFINES", "1 USAGE", "1 USAGE IS", "LINKAGE", "LINKAGE SECTION");
        dueAtTheEnd(B, "DECLARATIVES", "n1", "n1 SECTION", "EXIT", "STOP", "GO", "GO TO", "MOVE", "MOVE 1", "MOVE 1 TO",
            "MOVE 1 TO n1", "ADD", "ADD 1", "ADD 1 GIVING", "ADD 1 TO n1 SIZE", "ADD 1 TO n1 SIZE ERROR", "IF", "IF n1",
            "IF n1 NEXT", "IF n1 EXIT ELSE", "IF (", "IF NOT", "IF n1 =", "IF n1 IS", "IF n1 OR", "IF n1 AND", "IF 1",
            "PERFORM", "PERFORM n1", "PERFORM n1 THRU", "PERFORM 1", "PERFORM n1 UNTIL", "PERFORM VARYING",
            "PERFORM EXIT", "EVALUATE", "EVALUATE 1", "EVALUATE 1 WHEN", "EVALUATE 1 WHEN OTHER", "READ", "READ n1",
            "READ n1 AT", "READ n1 AT END", "CALL", "CALL t1", "CALL t1 USING", "CALL t1 EXCEPTION", "DISPLAY",
            "DISPLAY 1", "COMPUTE", "COMPUTE n1", "COMPUTE n1 =", "COMPUTE n1 = (", "COMPUTE n1 = 1 +",
            "COMPUTE n1 = ( 1");
    }

    private static void dueAtTheEnd(String ahead, String... clauses) {
        for (String clause : clauses) {
            Cobol.dueFaults(ahead + clause, "1@" + Cobol.words(ahead + clause).size());
        }
    }

    // "then it goes on behind the next PERIOD from that word on": also if that word is one.
    private static void behindTheNextPeriod() {
        Cobol.dueFaults(". . .", "1@0 1@1 1@2");
        Cobol.dueBodyFaults("MOVE . TO .", "1@1 1@2");
        Cobol.dueBodyFaults("MOVE TO . TO . EXIT . TO MOVE TO", "1@1 1@3 1@7");
        Cobol.dueFaults("DIVISION ID DIVISION . PROGRAM-ID n1 .", "1@0 1@4");
    }

    // "Behind the 20th fault nothing is read": not the end of all either.
    private static void twentyFaults() {
        Cobol.due("19 faults", Cobol.parsed(times(19, ". ")).faults(), 19);
        Cobol.due("20 faults", Cobol.parsed(times(20, ". ")).faults(), 20);
        Cobol.due("of 21", Cobol.parsed(times(21, ". ")).faults(), 20);
        CobolParser parser = Cobol.parsed(times(18, ". ") + "ID DIVISION . PROGRAM-ID");
        Cobol.due("a clause's and the end's", parser.faults(), 20);
        Cobol.due("the clause's", parser.fault(18, 1), 22);
        Cobol.due("the end's", parser.fault(19, 1), 22);
        parser = Cobol.parsed(times(19, ". ") + P + "END PROGRAM n2 . " + times(3, ". "));
        Cobol.due("a FAULT 2 as the 20th", parser.fault(19, 0), 2);
        Cobol.due("behind it", parser.faults(), 20);
        parser = Cobol.parsed(times(19, ". ") + times(10, P) + "ID DIVISION . . .");
        Cobol.due("a FAULT 3 as the 20th", parser.fault(19, 0), 3);
        Cobol.due("behind it", parser.faults(), 20);
    }

    private static void unitsAndTheirEnds() {
        tenOpen();
        functionsInNone();
        ownNames();
        endOfAll();
        inDeclaratives();
        innermostAlone();
    }

    // "at most 10 open: FAULT 3 at ID (ahead of DIVISION)".
    private static void tenOpen() {
        String ten = times(10, P);
        String ends = times(10, "END PROGRAM n1 . ");
        Cobol.due("ten", Cobol.parsed(ten + ends).count(2), 10);
        Cobol.dueFaults(ten + "ID DIVISION . " + ends, "3@60");
        Cobol.dueFaults(ten + "ID TO . " + ends, "3@60");
        Cobol.dueFaults(ten + "ID . " + ends, "3@60");
        Cobol.dueFaults(ten + "ID", "3@60 1@61");
        // The tenth is as it was, so what begins an eleventh unit goes on in it.
        Cobol.dueFaults(ten + P + ends, "3@60 1@63");
        Cobol.dueFaults(ten + "ID DIVISION . DATA DIVISION . WORKING SECTION . ID DIVISION . 1 . " + ends, "3@60 3@69");
        Cobol.dueFaults(times(9, P) + "ID DIVISION . ID DIVISION . PROGRAM-ID n1 . " + ends, "1@57");
        Cobol.dueFaults(ten + "PROCEDURE DIVISION . DECLARATIVES . ID DIVISION . END DECLARATIVES . " + ends, "1@65");
        // Ten at once are not ten in all.
        Cobol.due("eleven", Cobol.parsed(ten + "END PROGRAM n1 . " + P + ends).count(2), 11);
        Cobol.due("eleven in a row", Cobol.parsed(times(11, P + "END PROGRAM n1 . ")).count(2), 11);
    }

    // "FUNCTION-ID NAME . [0, of a unit that is in none: 1]", "an open PROGRAM".
    private static void functionsInNone() {
        Cobol.dueFaults(F, "");
        Cobol.dueFaults(P + F + "PROGRAM-ID n1 . END PROGRAM n1 . END PROGRAM n1 .", "1@9");
        Cobol.dueFaults(F + "ID DIVISION . DATA DIVISION . ID DIVISION .", "1@6 1@12");
        Cobol.dueFaults(P + "END PROGRAM n1 . " + F + "END FUNCTION n1 . " + F, "");
        Cobol.dueFaults(F + "FUNCTION-ID n1 . PROGRAM-ID n1 .", "1@6 1@9");
    }

    // "another name than its own: FAULT 2 at the name (the clause is not bad; of a bad one none)".
    private static void ownNames() {
        Cobol.dueFaults(P + "END PROGRAM n1 .", "");
        Cobol.dueFaults(P + "END PROGRAM n0 . END PROGRAM n1 .", "2@8 1@10");
        Cobol.dueFaults(P + "END PROGRAM n2 TO . END PROGRAM n1 .", "1@9");
        Cobol.dueFaults(P + "END PROGRAM n2 ", "1@9");
        Cobol.dueFaults(F + "END PROGRAM n2 .", "1@7");
        Cobol.dueFaults("ID DIVISION . PROGRAM-ID n0 . END PROGRAM n99 . " + P, "2@8");
        String inner = "ID DIVISION . PROGRAM-ID n2 . ";
        Cobol.dueFaults(P + inner + "END PROGRAM n1 . END PROGRAM n2 .", "2@14 2@18");
        Cobol.dueFaults(P + inner + "END PROGRAM n2 . END PROGRAM n1 .", "");
    }

    // "At the end of all units may not be open: FAULT 1 there (also behind that of a clause that ends there); but one
    // alone, of a state other than 0 and 9, in which none was contained."
    private static void endOfAll() {
        Cobol.dueFaults("ID DIVISION .", "1@3");
        Cobol.dueFaults(P, "");
        Cobol.dueFaults(F, "");
        for (String state : new String[] {"ENVIRONMENT DIVISION . ", "DATA DIVISION . ",
            "DATA DIVISION . FILE SECTION . ", "DATA DIVISION . FILE SECTION . FD n1 . ",
            "DATA DIVISION . WORKING SECTION . ", "DATA DIVISION . LINKAGE SECTION . ", "PROCEDURE DIVISION . ",
            "PROCEDURE DIVISION . DECLARATIVES . END DECLARATIVES . ", "PROCEDURE DIVISION . EXIT . "}) {
            Cobol.dueFaults(P + state, "");
            Cobol.dueFaults(P + "END PROGRAM n1 . " + F + state, "");
        }
        Cobol.dueFaults(B + "DECLARATIVES .", "1@11");
        Cobol.dueFaults(B + "DECLARATIVES . n1 SECTION .", "1@14");
        Cobol.dueFaults(P + P, "1@12");
        Cobol.dueFaults(P + "ID DIVISION .", "1@9");
        Cobol.dueFaults(P + P + "END PROGRAM n1 .", "1@16");
        Cobol.dueFaults(P + P + "END PROGRAM n1 . END PROGRAM n1 .", "");
        Cobol.dueFaults("ID DIVISION . PROGRAM-ID", "1@4 1@4");
        Cobol.dueFaults(B + "DECLARATIVES . END", "1@12 1@12");
        Cobol.dueFaults(P + P + "END", "1@13 1@13");
        Cobol.dueFaults(P + P + "END PROGRAM n1 . TO", "1@16 1@17");
        Cobol.dueFaults(P + "TO", "1@6");
        Cobol.dueFaults("TO", "1@0");
    }

    // "in 9 behind a SECTION alone", "8, 10 become 11".
    private static void inDeclaratives() {
        Cobol.dueBodyFaults("DECLARATIVES . EXIT . n1 . n1 SECTION . EXIT . n1 . END DECLARATIVES .", "1@2 1@4");
        Cobol.dueBodyFaults("n1 SECTION . DECLARATIVES .", "1@3");
        Cobol.dueBodyFaults("n1 . DECLARATIVES .", "1@2");
        Cobol.dueBodyFaults("EXIT . DECLARATIVES .", "1@2");
        Cobol.dueBodyFaults("DECLARATIVES . DECLARATIVES . END DECLARATIVES . DECLARATIVES .", "1@2 1@7");
        // A section ahead of the next unit's declaratives is none in them.
        String inner = "ID DIVISION . PROGRAM-ID n2 . PROCEDURE DIVISION . DECLARATIVES . ";
        Cobol.dueFaults(B + "n1 SECTION . n2 . " + inner + "n1 . END DECLARATIVES . END PROGRAM n2 . END PROGRAM n1 .",
            "1@25");
        // Nor does what comes behind END DECLARATIVES stand in the last section or paragraph of them.
        Cobol.dueBody("DECLARATIVES . n1 SECTION . n2 . END DECLARATIVES . EXIT .",
            "22@9(23:1@11(24:2@14)) 25@19(36@19)");
        Cobol.dueBody("DECLARATIVES . n1 SECTION . n2 . END DECLARATIVES . n3 . EXIT .",
            "22@9(23:1@11(24:2@14)) 24:3@19(25@21(36@21))");
        Cobol.dueBody("n1 SECTION . n2 . n3 SECTION . EXIT .", "23:1@9(24:2@12) 23:3@14(25@17(36@17))");
    }

    // What one unit has open is not open in the next, in it or behind it.
    private static void innermostAlone() {
        String inner = "ID DIVISION . PROGRAM-ID n2 . PROCEDURE DIVISION . EXIT . END PROGRAM n2 . ";
        Cobol.dueTree(B + "n1 SECTION . n2 . " + inner + "END PROGRAM n1 .",
            "1:1@0(20@6(23:1@9(24:2@12)) 1:2@14(20@20(25@23(36@23))))");
        Cobol.dueTree(B + "n2 . END PROGRAM n1 . " + inner,
            "1:1@0(20@6(24:2@9)) 1:2@15(20@21(25@24(36@24)))");
        Cobol.dueFaults(W + "1 . ID DIVISION . PROGRAM-ID n2 . DATA DIVISION . LINKAGE SECTION . 5 . END PROGRAM n2 . "
            + "END PROGRAM n1 .", "1@26");
    }

    private static void levels() {
        edgesOfLevels();
        latestOfALesserLevel();
        conditionLevels();
        withoutItems();
    }

    // "others are BAD", "BAD at the level without one".
    private static void edgesOfLevels() {
        for (int level = 0; level <= 100; level++) {
            boolean alone = level == 1 || level == 77;
            boolean inItem = alone || level >= 2 && level <= 49 || level == 88;
            Cobol.dueFaults(W + level + " .", alone ? "" : "1@12");
            Cobol.dueFaults(W + "1 . " + level + " .", inItem ? "" : "1@14");
            Cobol.dueFaults(W + level + " TO .", alone ? "1@13" : "1@12");
        }
        Cobol.dueFaults(W + "1 . 99999 .", "1@14");
        Cobol.dueFaults(W + "1 . 5 . 50 . 5 . 0 . 88 .", "1@16 1@20");
    }

    // "2 .. 49 in the latest item of a lesser level that is open (those of the same or a greater level end; ..)".
    private static void latestOfALesserLevel() {
        String w = "1:1@0(7@6(9@9(";
        Cobol.dueTree(W + "1 . 49 . 49 . 2 . 3 . 2 .",
            w + "12:1000@12(12:49000@14 12:49000@16 12:2000@18(12:3000@20) 12:2000@22))))");
        Cobol.dueTree(W + "1 . 10 . 5 . 7 .", w + "12:1000@12(12:10000@14 12:5000@16(12:7000@18)))))");
        Cobol.dueTree(W + "1 . 2 . 1 . 2 .", w + "12:1000@12(12:2000@14) 12:1000@16(12:2000@18))))");
        Cobol.dueTree(W + "1 . 2 . 77 . 77 . 1 . 2 .",
            w + "12:1000@12(12:2000@14) 12:77000@16 12:77000@18 12:1000@20(12:2000@22))))");
        Cobol.dueFaults(W + "77 . 2 . 49 .", "1@14 1@16");
        // A 77 ends those ahead of it: only so may the latest one of a lesser level be one that is not open.
        Cobol.dueFaults(W + "1 . 77 . 2 .", "1@16");
        Cobol.dueFaults(W + "1 . 5 . 77 . 10 . 88 .", "1@18");
        StringBuilder all = new StringBuilder();
        for (int level = 1; level <= 49; level++) {
            all.append(level).append(" . ");
        }
        // All 49 levels are open: then the same one, the one ahead of it, the least, and all anew.
        Cobol.due("49 . in 48", parentOfTheLast(W + all + "49 ."), 3 + 47);
        Cobol.due("48 . in 47", parentOfTheLast(W + all + "48 ."), 3 + 46);
        Cobol.due("2 . in 1", parentOfTheLast(W + all + "2 ."), 3);
        Cobol.due("88 . in 49", parentOfTheLast(W + all + "88 ."), 3 + 48);
        Cobol.due("depth", Cobol.parsed(W + all + all).depth(), 3 + 49);
    }

    private static int parentOfTheLast(String source) {
        CobolParser parser = Cobol.parsed(source);
        return parser.node(parser.count(1) - 1, 4);
    }

    // "88 in the latest item that is no 88 one (BAD without one)".
    private static void conditionLevels() {
        String w = "1:1@0(7@6(9@9(";
        Cobol.dueFaults(W + "88 . 88 .", "1@12 1@14");
        Cobol.dueTree(W + "1 . 88 . 88 .", w + "12:1000@12(12:88000@14 12:88000@16))))");
        Cobol.dueTree(W + "77 . 88 .", w + "12:77000@12(12:88000@14))))");
        Cobol.dueTree(W + "1 . 5 . 10 . 88 . 5 . 88 . 10 .", w
            + "12:1000@12(12:5000@14(12:10000@16(12:88000@18)) 12:5000@20(12:88000@22 12:10000@24)))))");
        Cobol.dueFaults(W + "1 TO . 88 .", "1@13 1@15");
        Cobol.dueTree(W + "1 n1 . 88 n99 VALUE 0 THRU 99999 .",
            w + "12:1002@12(12:88100@15(14@17(41:200000@18 41:299999@20))))))");
    }

    // "Each section, FD begins without items."
    private static void withoutItems() {
        String files = P + "DATA DIVISION . FILE SECTION . FD n1 . 1 . ";
        Cobol.dueFaults(files + "FD n2 . 5 .", "1@20");
        Cobol.dueFaults(files + "FD n2 . 88 .", "1@20");
        Cobol.dueFaults(files + "WORKING SECTION . 5 . LINKAGE SECTION . 88 .", "1@20 1@25");
        Cobol.dueFaults(W + "1 . LINKAGE SECTION . 2 . 1 . 2 .", "1@17");
        Cobol.dueFaults(files + "FD TO . 5 . WORKING TO . 5 . LINKAGE SECTION TO . 88 .", "1@18 1@23 1@29");
        Cobol.dueTree(P + "DATA DIVISION . FILE SECTION . FD n1 . FD n1 . LINKAGE SECTION .",
            "1:1@0(7@6(8@9(11:1@12 11:1@15) 10@18))");
    }

    private static void statements() {
        rowsAreLong();
        atLeastOne();
        phrasesThatBegan();
        namesWithTimes();
    }

    // "what is told as a row is as long as it can be", "a LIST is STATEMENT+, as many as there are".
    private static void rowsAreLong() {
        Cobol.dueSentence("ADD 1 n1 t1 n2 TO n1 n2 END-ADD",
            "27@9!(41:200001@10 41:100001@11 41:300001@12 41:100002@13 41:100001@15 41:100002@16)");
        Cobol.dueSentence("IF n1 EXIT EXIT ELSE EXIT EXIT END-IF EXIT",
            "28@9!(54:1@10 40@11(36@11 36@12) 40@14(36@14 36@15)) 36@17");
        Cobol.dueSentence("EVALUATE 1 WHEN 1 EVALUATE 2 WHEN 2 EXIT WHEN 3 EXIT END-EVALUATE WHEN 4 EXIT",
            "30@9(41:200001@10 46@11(41:200001@12 40@13(30@13!(41:200002@14 46@15(41:200002@16 40@17(36@17)) "
                + "46@18(41:200003@19 40@20(36@20))))) 46@22(41:200004@23 40@24(36@24)))");
        Cobol.dueBodyFaults("GO n1 n2 .", "1@2");
        Cobol.dueBodyFaults("ADD 1 GIVING n1 n2 .", "1@4");
        Cobol.dueBodyFaults("PERFORM n1 n2 n3 TIMES .", "1@2");
        Cobol.dueBodyFaults("MOVE 1 2 TO n1 .", "1@2");
        Cobol.dueBodyFaults("IF n1 NEXT SENTENCE EXIT ELSE EXIT .", "1@5");
    }

    // "+ once and more": none is too few.
    private static void atLeastOne() {
        String[][] rows = {{"MOVE 1 TO .", "1@3"}, {"ADD TO n1 .", "1@1"}, {"ADD 1 TO .", "1@3"}, {"DISPLAY .", "1@1"},
            {"ADD 1 TO n1 SIZE ERROR END-ADD .", "1@6"}, {"IF n1 END-IF .", "1@2"}, {"IF n1 ELSE EXIT .", "1@2"},
            {"EVALUATE 1 END-EVALUATE .", "1@2"}, {"EVALUATE 1 WHEN EXIT .", "1@3"}, {"EVALUATE 1 WHEN 1 WHEN .", "1@5"},
            {"EVALUATE 1 WHEN 1 EXIT WHEN 2 .", "1@7"}, {"READ n1 AT END END-READ .", "1@4"},
            {"CALL t1 USING END-CALL .", "1@3"}, {"CALL t1 EXCEPTION END-CALL .", "1@3"}, {"PERFORM END-PERFORM .", "1@1"},
            {"PERFORM 1 TIMES END-PERFORM .", "1@3"}, {"COMPUTE n1 = END-COMPUTE .", "1@3"}};
        for (String[] row : rows) {
            Cobol.dueBodyFaults(row[0], row[1]);
        }
        Cobol.dueFaults(P + "PROCEDURE DIVISION USING .", "1@9");
        Cobol.dueFaults(W + "1 OCCURS 1 INDEXED BY .", "1@17");
    }

    // "a phrase that may come does, if its first word is there".
    private static void phrasesThatBegan() {
        String[][] rows = {{"ADD 1 TO n1 SIZE EXIT .", "1@5"}, {"READ n1 AT READ n1 .", "1@3"},
            {"PERFORM n1 THRU .", "1@3"}, {"PERFORM n1 1 EXIT .", "1@3"}, {"PERFORM n1 VARYING n1 EXIT .", "1@4"},
            {"IF n1 EXIT ELSE END-IF .", "1@4"}, {"IF n1 NEXT EXIT .", "1@3"}, {"CALL t1 USING EXIT .", "1@3"}};
        for (String[] row : rows) {
            Cobol.dueBodyFaults(row[0], row[1]);
        }
        Cobol.dueFaults(W + "1 VALUE 1 THRU .", "1@16");
        Cobol.dueFaults(W + "1 OCCURS 1 DEPENDING INDEXED n1 .", "1@16");
        Cobol.dueFaults(P + "ENVIRONMENT DIVISION . SELECT n1 ASSIGN n1 KEY ORGANIZATION INDEXED .", "1@14");
    }

    // "if a NAME is next, without TIMES behind it: .. else .. END-PERFORM".
    private static void namesWithTimes() {
        Cobol.dueSentence("PERFORM n1 TIMES EXIT END-PERFORM", "29:1@9!(43@10(41:100001@10) 40@12(36@12))");
        Cobol.dueSentence("PERFORM n1 n2 TIMES EXIT", "29@9(41:100001@10 43@11(41:100002@11)) 36@13");
        Cobol.dueBodyFaults("PERFORM n1 TIMES EXIT .", "1@4");
        Cobol.dueBodyFaults("PERFORM n1 TIMES TIMES EXIT END-PERFORM .", "1@3");
        Cobol.dueBodyFaults("PERFORM n1 EXIT END-PERFORM .", "1@3");
        Cobol.dueBodyFaults("PERFORM t1 TIMES EXIT END-PERFORM .", "1@1");
        Cobol.dueBodyFaults("PERFORM n1 THRU n2 TIMES .", "1@4");
        Cobol.dueBodyFaults("PERFORM n1 THRU n2 n3 TIMES .", "");
    }

    private static void conditions() {
        withoutSubject();
        behindNot();
    }

    // "BAD at once without one", "else BAD at the word behind it", "There is no subject at the beginning of a
    // condition, at ( and behind ) ."
    private static void withoutSubject() {
        String[][] rows = {{"IF IS = 1 EXIT .", "1@1"}, {"IF IS .", "1@1"}, {"IF = 1 EXIT .", "1@1"},
            {"IF LESS THAN 1 EXIT .", "1@1"}, {"IF NOT = 1 EXIT .", "1@1"}, {"IF NOT LESS .", "1@1"},
            {"IF n1 OR = 1 EXIT .", "1@3"}, {"IF n1 AND NOT > 1 EXIT .", "1@3"}, {"IF 1 EXIT .", "1@2"},
            {"IF t1 EXIT .", "1@2"}, {"IF 1 .", "1@2"}, {"IF n1 OR 1 EXIT .", "1@4"}, {"IF ( 1 ) EXIT .", "1@3"},
            {"IF n1 = 1 OR ( = 2 ) EXIT .", "1@6"}, {"IF n1 = 1 OR ( 2 ) EXIT .", "1@7"},
            {"IF ( n1 = 1 ) OR = 2 EXIT .", "1@7"}, {"IF ( n1 = 1 ) AND 2 EXIT .", "1@8"},
            {"IF n1 = 1 OR ( n2 ) OR 3 EXIT .", "1@10"}, {"IF NOT ( n1 = 1 ) OR 3 EXIT .", "1@9"},
            {"IF n1 = 1 EXIT . IF 2 EXIT .", "1@8"}, {"IF n1 = 1 IF 2 EXIT .", "1@6"},
            {"PERFORM UNTIL n1 = 1 PERFORM UNTIL > 2 EXIT END-PERFORM END-PERFORM .", "1@7"}};
        for (String[] row : rows) {
            Cobol.dueBodyFaults(row[0], row[1]);
        }
        Cobol.dueBodyFaults("IF n1 = 1 OR NOT NOT 2 AND NOT > 3 OR IS NOT LESS THAN 4 EXIT .", "");
        // Behind ) a NAME is a condition's name, with a subject ahead of ( too.
        Cobol.dueSentence("IF n1 = 1 OR ( n2 > 3 ) OR n4 EXIT",
            "28@9(50@10(53@10^10(41:100001@10 41:200001@12) 53:2@15^15(41:100002@15 41:200003@17) 54:4@20) 40@21(36@21))");
    }

    // "NOT FACTOR (if no comparing word is behind NOT)".
    private static void behindNot() {
        Cobol.dueBodyFaults("IF n1 NOT n2 EXIT .", "1@2");
        Cobol.dueBodyFaults("IF n1 NOT NOT = 2 EXIT .", "1@2");
        Cobol.dueBodyFaults("IF n1 NOT IS = 2 EXIT .", "1@2");
        Cobol.dueBodyFaults("IF n1 IS IS = 2 EXIT .", "1@3");
        Cobol.dueBodyFaults("IF n1 IS NOT NOT = 2 EXIT .", "1@4");
        Cobol.dueBodyFaults("IF n1 = 1 OR NOT EXIT .", "1@6");
        Cobol.dueBodyFaults("IF n1 = 1 OR NOT", "1@6");
        Cobol.dueSentence("IF n1 = 1 OR NOT IS > 2 EXIT",
            "28@9(50@10(53@10^10(41:100001@10 41:200001@12) 52@14(53:2@15^10(41:200002@17))) 40@18(36@18))");
        Cobol.dueSentence("IF n1 = 1 OR NOT > 2 EXIT",
            "28@9(50@10(53@10^10(41:100001@10 41:200001@12) 53:5@14^10(41:200002@16)) 40@17(36@17))");
    }

    // "each LIST within a statement, each bracket, each NOT of a FACTOR is one deeper than what it is in; more than 40:
    // FAULT 3 at its first word (of a LIST, if that is a statement's)".
    private static void nestings() {
        String[] openers = {"IF n1 ", "IF n1 NEXT SENTENCE ELSE ", "ADD 1 TO n1 SIZE ERROR ", "EVALUATE 1 WHEN 1 ",
            "READ n1 AT END ", "CALL t1 EXCEPTION ", "PERFORM "};
        for (String opener : openers) {
            int size = Cobol.words(opener).size();
            String ends = opener.equals("PERFORM ") ? times(41, "END-PERFORM ") : "";
            String inForty = times(40, opener);
            Cobol.dueBodyFaults(times(39, opener) + "PERFORM EXIT END-PERFORM "
                + (ends.isEmpty() ? "" : times(39, "END-PERFORM ")) + ".", "");
            Cobol.dueBodyFaults(inForty + opener + "EXIT " + ends + ".", "3@" + 41 * size);
            Cobol.dueBodyFaults(inForty + opener + "TO .", "1@" + 41 * size);
            Cobol.dueBodyFaults(inForty + "IF ( n1 ) EXIT .", "3@" + (40 * size + 1));
            Cobol.dueBodyFaults(inForty + "IF NOT n1 EXIT .", "3@" + (40 * size + 1));
            Cobol.dueBodyFaults(inForty + "COMPUTE n1 = ( 1 ) .", "3@" + (40 * size + 3));
            Cobol.dueBodyFaults(inForty + "PERFORM n1 UNTIL ( n1 ) .", "3@" + (40 * size + 3));
        }
        String inForty = times(40, "IF n1 ");
        Cobol.dueBodyFaults(inForty + "IF n1 NEXT SENTENCE ELSE NEXT SENTENCE .", "");
        Cobol.dueBodyFaults(inForty + "IF n1 = 1 OR NOT > 2 NEXT SENTENCE .", "");
        Cobol.dueBodyFaults("IF " + times(40, "( ") + "n1 " + times(40, ") ") + "IF NOT n1 EXIT .", "");
        Cobol.dueBodyFaults("IF " + times(40, "( ") + "NOT n1 " + times(40, ") ") + "EXIT .", "3@41");
        Cobol.dueBodyFaults("IF " + times(40, "NOT ") + "( n1 ) EXIT .", "3@41");
        Cobol.dueBodyFaults("IF n1 = 1 OR " + times(40, "NOT ") + "NOT > 2 EXIT .", "");
        Cobol.dueBodyFaults("COMPUTE n1 = " + times(40, "( ") + "1 " + times(40, ") ") + "+ ( 1 ) .", "");
        Cobol.dueBodyFaults("COMPUTE n1 = " + times(40, "( ") + "1 * ( 1 ) " + times(40, ") ") + ".", "3@45");
        Cobol.dueBodyFaults(times(40, "IF n1 ") + "EXIT ELSE EXIT .", "");
        // Scope ends come up again, so that the next is no deeper.
        Cobol.dueBodyFaults(times(30, "IF n1 EXIT END-IF ") + times(30, "IF n1 NEXT SENTENCE END-IF ") + ".", "");
        // The whole clause is bad, and it goes on behind the next period.
        Cobol.dueBodyFaults("IF " + times(41, "( ") + "TO TO . TO .", "3@41 1@45");
    }

    private static void valuesAndPlaces() {
        edgesOfValues();
        places();
    }

    // The least and the greatest values of words, where nodes bear them.
    private static void edgesOfValues() {
        Cobol.dueSentence("DISPLAY n0 n99 0 99999 t0 t99",
            "33@9(41:100000@10 41:100099@11 41:200000@12 41:299999@13 41:300000@14 41:300099@15)");
        Cobol.dueSentence("GO n0 GO n99 READ n0 READ n99", "34@9 34:99@11 31@13 31:99@15");
        Cobol.dueTree(W + "1 n0 PIC t0 OCCURS 0 . 49 n99 PIC t99 OCCURS 99999 DEPENDING n99 INDEXED n0 n99 .",
            "1:1@0(7@6(9@9(12:1001@12(13@14 15@16 "
                + "12:49100@19(13:99@21 15:99999@23(16:99@26 17@28 17:99@29))))))");
        Cobol.dueTree("ID DIVISION . PROGRAM-ID n99 . END PROGRAM n99 . ID DIVISION . FUNCTION-ID n0 .", "1:99@0 2@10");
        Cobol.dueSentence("COMPUTE n0 = 0 + 99999 COMPUTE n99 = n0",
            "38@9(55:5@12(41:200000@12 41:299999@14)) 38:99@15(41:100000@18)");
    }

    // "of 50, 51, 55 that of their first child (brackets left out)", "46 its first WHEN's", "21: its name's; 16, 17:
    // their names'".
    private static void places() {
        Cobol.dueSentence("IF ( ( n1 ) AND n2 ) OR n3 NEXT SENTENCE",
            "28@9(50@12(51@12(54:1@12 54:2@15) 54:3@18) 42@19)");
        Cobol.dueSentence("IF NOT ( n1 OR n2 ) AND n3 NEXT SENTENCE",
            "28@9(51@10(52@10(50@12(54:1@12 54:2@14)) 54:3@17) 42@18)");
        Cobol.dueSentence("COMPUTE n1 = ( ( 1 ) ) * 2 - ( 3 / 4 )",
            "38:1@9(55:6@14(55:7@14(41:200001@14 41:200002@18) 55:8@21(41:200003@21 41:200004@23)))");
        Cobol.dueSentence("EVALUATE 1 WHEN 1 WHEN OTHER EXIT",
            "30@9(41:200001@10 46@11(41:200001@12 47@14 40@15(36@15)))");
        Cobol.dueSentence("CALL n1 USING n2 n3 EXCEPTION EXIT", "32@9(41:100001@10 21:2@12 21:3@13 40@15(36@15))");
        Cobol.dueSentence("IF n1 THEN EXIT ELSE NEXT SENTENCE", "28@9(54:1@10 40@12(36@12) 42@14)");
    }

    private static void answers() {
        noTree();
        fifthAnswers();
        beyondTheEdges();
    }

    // "IllegalStateException if there are faults: no tree then", "0 without a tree", "NONE without".
    private static void noTree() {
        CobolParser[] without = {new CobolParser(), Cobol.parsed(""), Cobol.parsed(B + "EXIT TO ."), Cobol.parsed(B)};
        Cobol.add(without[3], Cobol.words(P + "END PROGRAM n2 ."));
        Cobol.due("a FAULT 2 is one too", Cobol.parses(without[3]) ? 1 : 0, 0);
        for (CobolParser parser : without) {
            Cobol.due("depth()", parser.depth(), 0);
            Cobol.due("count(1)", parser.count(1), 0);
            Cobol.due("count(2)", parser.count(2), 0);
            for (int what = 0; what < 6; what++) {
                Cobol.due("node(0, " + what + ")", parser.node(0, what), -1);
            }
            Cobol.due("child(0, 0)", parser.child(0, 0), -1);
            for (int d = 0; d < 4; d++) {
                Cobol.due("division(0, " + d + ")", parser.division(0, d), -1);
            }
        }
    }

    // "of a RELATION the node of its subject, of statements 1 if their scope end stands there, else 0; NONE for
    // others, or without it".
    private static void fifthAnswers() {
        String[] ended = {"ADD 1 TO n1 ", "IF n1 EXIT ", "EVALUATE 1 WHEN 1 EXIT ", "READ n1 ", "CALL n1 ",
            "COMPUTE n1 = 1 "};
        String[] ends = {"END-ADD", "END-IF", "END-EVALUATE", "END-READ", "END-CALL", "END-COMPUTE"};
        for (int i = 0; i < ended.length; i++) {
            Cobol.due(ended[i], Cobol.parsed(B + ended[i] + ".").node(3, 5), 0);
            Cobol.due(ended[i] + ends[i], Cobol.parsed(B + ended[i] + ends[i] + " .").node(3, 5), 1);
            for (int other = 0; other < ends.length; other++) {
                if (other != i) {
                    int bad = Cobol.words(ended[i]).size();
                    Cobol.dueBodyFaults(ended[i] + ends[other] + " .", "1@" + bad);
                }
            }
        }
        Cobol.due("PERFORM n1", Cobol.parsed(B + "PERFORM n1 .").node(3, 5), 0);
        Cobol.due("PERFORM EXIT", Cobol.parsed(B + "PERFORM EXIT END-PERFORM .").node(3, 5), 1);
        Cobol.due("MOVE", Cobol.parsed(B + "MOVE 1 TO n1 .").node(3, 5), 0);
        CobolParser parser = Cobol.parsed(B + "IF n1 = 2 AND NOT 3 OR n4 > 5 AND n6 EXIT .");
        StringBuilder found = new StringBuilder();
        for (int i = 0; i < parser.count(1); i++) {
            if (parser.node(i, 0) == 53) {
                found.append(parser.node(i, 5)).append(' ');
            } else if (parser.node(i, 0) < 26 || parser.node(i, 0) > 38) {
                Cobol.due("node(" + i + ", 5)", parser.node(i, 5), -1);
            }
        }
        Cobol.due("subjects", found.toString(), "7 7 14 14 ");
    }

    // "NONE for others", "NONE without one", "NONE without".
    private static void beyondTheEdges() {
        CobolParser parser = Cobol.parsed(P + P + "END PROGRAM n1 . END PROGRAM n1 .");
        int[] far = {-1, 2, 6, Integer.MIN_VALUE, Integer.MAX_VALUE};
        for (int i : far) {
            for (int what = 0; what < 6; what++) {
                Cobol.due("node(" + i + ", " + what + ")", parser.node(i, what), -1);
            }
            Cobol.due("child(" + i + ", 0)", parser.child(i, 0), -1);
            Cobol.due("child(0, " + i + ")", parser.child(0, i), -1);
            Cobol.due("fault(" + i + ", 0)", parser.fault(i, 0), -1);
            Cobol.due("division(" + i + ", 0)", parser.division(i, 0), -1);
            Cobol.due("division(0, " + i + ")", parser.division(0, i), -1);
            Cobol.due("count(" + i + ")", parser.count(i), i == 2 ? 2 : -1);
        }
        Cobol.due("node(0, 6)", parser.node(0, 6), -1);
        Cobol.due("node(0, -1)", parser.node(0, -1), -1);
        Cobol.due("node(0, 4)", parser.node(0, 4), -1);
        Cobol.due("node(1, 4)", parser.node(1, 4), 0);
        Cobol.due("child(0, 0)", parser.child(0, 0), 1);
        Cobol.due("child(0, 1)", parser.child(0, 1), -1);
        parser = Cobol.parsed(times(20, ". "));
        Cobol.due("fault(19, 0)", parser.fault(19, 0), 1);
        for (int what : far) {
            Cobol.due("fault(0, " + what + ")", parser.fault(0, what), -1);
            Cobol.due("fault(19, " + what + ")", parser.fault(19, what), -1);
        }
        Cobol.due("fault(20, 0)", parser.fault(20, 0), -1);
        Cobol.due("fault(-1, 1)", parser.fault(-1, 1), -1);
    }
}
