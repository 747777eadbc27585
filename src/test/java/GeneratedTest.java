import java.util.ArrayList;
import java.util.List;
import java.util.Random;

/** Programs made at random together with the trees that are due; then cut off, and with a word spoilt. */
public final class GeneratedTest {
    private static final int PROGRAMS = 3000;

    public static void main(String[] args) {
        Random random = new Random(20261115);
        for (int i = 0; i < PROGRAMS; i++) {
            Maker maker = new Maker(random);
            maker.row();
            if (maker.words.size() <= 1500) {
                whole(maker);
                cutOff(maker, random);
                spoilt(maker, random);
            }
        }
        noise(random);
        Cobol.end();
    }

    private static void whole(Maker maker) {
        CobolParser parser = new CobolParser();
        Cobol.add(parser, maker.words);
        Cobol.due("parses " + maker.source(), Cobol.parses(parser) ? 1 : 0, 1);
        StringBuilder due = new StringBuilder();
        List<Part> inOrder = new ArrayList<>();
        int units = 0;
        int depth = 0;
        for (Part unit : maker.top.children) {
            due.append(due.length() == 0 ? "" : " ").append(unit.text());
            depth = Math.max(depth, unit.depth());
            unit.putInOrder(inOrder);
        }
        Cobol.due("tree of " + maker.source(), Cobol.dump(parser), due.toString());
        Cobol.due("depth of " + maker.source(), parser.depth(), depth);
        Cobol.due("nodes of " + maker.source(), parser.count(1), inOrder.size());
        StringBuilder got = new StringBuilder();
        StringBuilder want = new StringBuilder();
        for (int i = 0; i < inOrder.size(); i++) {
            Part part = inOrder.get(i);
            units += part.kind <= 2 ? 1 : 0;
            got.append(parser.node(i, 0)).append(' ').append(parser.node(i, 2)).append(' ').append(parser.node(i, 4));
            want.append(part.kind).append(' ').append(part.place).append(' ').append(inOrder.indexOf(part.parent));
            int extra = part.kind == 53 ? inOrder.indexOf(part.subject) : part.extra;
            got.append(' ').append(parser.node(i, 5)).append('\n');
            want.append(' ').append(extra).append('\n');
        }
        Cobol.due("numbers of " + maker.source(), got.toString(), want.toString());
        Cobol.due("units of " + maker.source(), parser.count(2), units);
    }

    // What begins a right row is never bad, so that all faults stand where the row was cut off; but NOT, a NAME
    // with TIMES and the name behind DECLARATIVES can't be there without the word behind them.
    private static void cutOff(Maker maker, Random random) {
        for (int i = 0; i < 8; i++) {
            int length = random.nextInt(maker.words.size());
            CobolParser parser = new CobolParser();
            Cobol.add(parser, maker.words.subList(0, length));
            boolean wantsNext = length > 0 && (maker.written.get(length - 1).equals("NOT")
                || maker.written.get(length).equals("TIMES") || maker.declarativeNames.contains(length - 1));
            boolean behindPeriod = length == 0 || maker.words.get(length - 1)[0] == 4;
            Cobol.parses(parser);
            boolean right = behindPeriod ? parser.faults() <= 1 : parser.faults() == 1 || parser.faults() == 2;
            for (int k = 0; k < parser.faults(); k++) {
                right &= parser.fault(k, 0) == 1;
                right &= parser.fault(k, 1) == length || wantsNext && parser.fault(k, 1) == length - 1;
            }
            Cobol.due("cut off at " + length + ": " + maker.source() + " " + Cobol.faults(parser), right ? 1 : 0, 1);
        }
    }

    private static void spoilt(Maker maker, Random random) {
        for (int i = 0; i < 8; i++) {
            int place = random.nextInt(maker.words.size());
            List<int[]> words = new ArrayList<>(maker.words);
            int how = random.nextInt(3);
            if (how == 0) {
                words.remove(place);
            } else if (how == 1) {
                words.set(place, randomWord(random));
            } else {
                words.add(place, randomWord(random));
            }
            CobolParser parser = new CobolParser();
            Cobol.add(parser, words);
            Cobol.due("spoilt at " + place + ": " + maker.source(), plausible(parser, words.size(), place - 1), 1);
        }
    }

    private static void noise(Random random) {
        for (int i = 0; i < 3000; i++) {
            CobolParser parser = new CobolParser();
            int size = random.nextInt(60);
            List<int[]> words = new ArrayList<>(Cobol.words(i % 2 == 0 ? Cobol.BODY : Cobol.PROGRAM + "DATA DIVISION ."));
            for (int k = 0; k < size; k++) {
                words.add(randomWord(random));
            }
            Cobol.add(parser, words);
            Cobol.due("noise " + i, plausible(parser, words.size(), 0), 1);
        }
    }

    private static int[] randomWord(Random random) {
        int[] kinds = {0, 0, 0, 0, 1, 1, 2, 3, 4, 4, 5};
        int kind = kinds[random.nextInt(kinds.length)];
        return new int[] {kind, random.nextInt(new int[] {79, 4, 90, 4, 1, 9}[kind])};
    }

    private static int plausible(CobolParser parser, int size, int least) {
        boolean parsed = Cobol.parses(parser);
        boolean right = parsed == (parser.faults() == 0) && parser.faults() <= 20 && parser.count(0) == 0;
        right &= parsed || parser.count(1) == 0 && parser.count(2) == 0 && parser.depth() == 0;
        int latest = least;
        for (int i = 0; i < parser.faults(); i++) {
            right &= parser.fault(i, 0) >= 1 && parser.fault(i, 0) <= 3;
            right &= parser.fault(i, 1) >= latest && parser.fault(i, 1) <= size;
            latest = parser.fault(i, 1);
        }
        return right ? 1 : 0;
    }

    /** A node that is due. */
    static final class Part {
        final int kind;
        final int value;
        int place;
        int extra = -1;
        Part subject;
        Part parent;
        final List<Part> children = new ArrayList<>();

        Part(int kind, int value, int place) {
            this.kind = kind;
            this.value = value;
            this.place = place;
            this.extra = kind >= 26 && kind <= 38 ? 0 : -1;
        }

        Part with(Part child) {
            child.parent = this;
            children.add(child);
            return this;
        }

        int depth() {
            int deepest = 0;
            for (Part child : children) {
                deepest = Math.max(deepest, child.depth());
            }
            return deepest + 1;
        }

        void putInOrder(List<Part> all) {
            all.add(this);
            for (Part child : children) {
                child.putInOrder(all);
            }
        }

        String text() {
            StringBuilder text = new StringBuilder().append(kind);
            text.append(value != 0 ? ":" + value : "").append('@').append(place);
            text.append(kind == 53 ? "^" + subject.place : extra == 1 ? "!" : "");
            for (int i = 0; i < children.size(); i++) {
                text.append(i == 0 ? "(" : " ").append(children.get(i).text());
            }
            return text.append(children.isEmpty() ? "" : ")").toString();
        }
    }

    /** Writes words and the parts they make. */
    static final class Maker {
        final Random random;
        final List<int[]> words = new ArrayList<>();
        final List<String> written = new ArrayList<>();
        final List<Integer> declarativeNames = new ArrayList<>();
        final Part top = new Part(0, 0, -1);
        private Part subject;
        private int latest;

        Maker(Random random) {
            this.random = random;
        }

        String source() {
            return String.join(" ", written);
        }

        int here() {
            return words.size();
        }

        boolean maybe(int percent) {
            return random.nextInt(100) < percent;
        }

        void say(String... all) {
            for (String word : all) {
                written.add(word);
                words.add(Cobol.word(word));
            }
        }

        void perhaps(String word) {
            if (maybe(50)) {
                say(word);
            }
        }

        int name() {
            int name = random.nextInt(100);
            say("n" + name);
            return name;
        }

        void row() {
            int units = 1 + random.nextInt(2);
            for (int i = 0; i < units; i++) {
                unit(top, 0, i == units - 1);
            }
        }

        void unit(Part holder, int inside, boolean last) {
            int place = here();
            say("ID", "DIVISION", ".");
            int kind = inside == 0 && maybe(30) ? 2 : 1;
            say(kind == 2 ? "FUNCTION-ID" : "PROGRAM-ID");
            int name = name();
            say(".");
            Part unit = new Part(kind, name, place);
            holder.with(unit);
            if (maybe(50)) {
                environment(unit);
            }
            if (maybe(60)) {
                data(unit);
            }
            if (maybe(80)) {
                procedure(unit);
            }
            int contained = kind == 1 && inside < 3 ? random.nextInt(5) - 2 : 0;
            for (int i = 0; i < contained; i++) {
                unit(unit, inside + 1, false);
            }
            if (inside > 0 || contained > 0 || !last || maybe(50)) {
                say("END", kind == 2 ? "FUNCTION" : "PROGRAM", "n" + name, ".");
            }
        }

        void environment(Part unit) {
            Part made = new Part(3, 0, here());
            unit.with(made);
            say("ENVIRONMENT", "DIVISION", ".");
            for (int i = random.nextInt(3); i > 0; i--) {
                int place = here();
                say("SELECT");
                Part select = new Part(4, name(), place);
                made.with(select);
                say("ASSIGN");
                perhaps("TO");
                select.with(maybe(50) ? nameOperand() : literal("t"));
                if (maybe(50)) {
                    int at = here();
                    say("ORGANIZATION");
                    perhaps("IS");
                    int how = random.nextInt(3);
                    say(new String[] {"SEQUENTIAL", "RELATIVE", "INDEXED"}[how]);
                    select.with(new Part(5, how, at));
                }
                if (maybe(50)) {
                    int at = here();
                    say("KEY");
                    perhaps("IS");
                    select.with(new Part(6, name(), at));
                }
                say(".");
            }
        }

        void data(Part unit) {
            Part made = new Part(7, 0, here());
            unit.with(made);
            say("DATA", "DIVISION", ".");
            if (maybe(40)) {
                Part file = new Part(8, 0, here());
                made.with(file);
                say("FILE", "SECTION", ".");
                for (int i = random.nextInt(3); i > 0; i--) {
                    int place = here();
                    say("FD");
                    Part fd = new Part(11, name(), place);
                    file.with(fd);
                    say(".");
                    items(fd);
                }
            }
            for (int kind = 9; kind <= 10; kind++) {
                if (maybe(50)) {
                    Part section = new Part(kind, 0, here());
                    made.with(section);
                    say(kind == 9 ? "WORKING" : "LINKAGE", "SECTION", ".");
                    items(section);
                }
            }
        }

        void items(Part holder) {
            for (int i = random.nextInt(3); i > 0; i--) {
                items(holder, maybe(25) ? 77 : 1);
            }
        }

        void items(Part holder, int level) {
            int place = here();
            say(Integer.toString(level));
            int name = 0;
            if (maybe(70)) {
                name = name() + 1;
            } else {
                perhaps("FILLER");
            }
            Part item = new Part(12, 1000 * level + name, place);
            holder.with(item);
            for (int i = random.nextInt(3); i > 0; i--) {
                itemClause(item);
            }
            say(".");
            if (level != 88 && maybe(30)) {
                items(item, 88);
            }
            // The children of one item need not have the same level, if each is not greater than the one ahead.
            int greatest = 49;
            for (int i = random.nextInt(3); level < 40 && greatest > level && i > 0; i--) {
                greatest = level + 1 + random.nextInt(Math.min(9, greatest - level));
                items(item, greatest);
            }
        }

        void itemClause(Part item) {
            int place = here();
            switch (random.nextInt(5)) {
                case 0:
                    say("PIC");
                    perhaps("IS");
                    int text = random.nextInt(100);
                    say("t" + text);
                    item.with(new Part(13, text, place));
                    break;
                case 1:
                    say("VALUE");
                    perhaps("IS");
                    Part value = new Part(14, 0, place).with(literal(maybe(50) ? "t" : ""));
                    if (maybe(50)) {
                        say("THRU");
                        value.with(literal(maybe(50) ? "t" : ""));
                    }
                    item.with(value);
                    break;
                case 2:
                    occurs(item);
                    break;
                case 3:
                    say("REDEFINES");
                    item.with(new Part(18, name(), place));
                    break;
                default:
                    say("USAGE");
                    perhaps("IS");
                    boolean display = maybe(50);
                    say(display ? "DISPLAY" : "COMP");
                    item.with(new Part(19, display ? 1 : 0, place));
            }
        }

        void occurs(Part item) {
            int place = here();
            int times = random.nextInt(100000);
            say("OCCURS", Integer.toString(times));
            perhaps("TIMES");
            Part made = new Part(15, times, place);
            if (maybe(50)) {
                say("DEPENDING");
                int at = here();
                made.with(new Part(16, name(), at));
            }
            if (maybe(50)) {
                say("INDEXED");
                perhaps("BY");
                names(made, 17);
            }
            item.with(made);
        }

        void names(Part holder, int kind) {
            for (int i = 1 + random.nextInt(3); i > 0; i--) {
                int at = here();
                int name = name();
                holder.with(new Part(kind, kind == 41 ? 100000 + name : name, at));
            }
        }

        void procedure(Part unit) {
            Part made = new Part(20, 0, here());
            unit.with(made);
            say("PROCEDURE", "DIVISION");
            if (maybe(30)) {
                say("USING");
                names(made, 21);
            }
            say(".");
            if (maybe(30)) {
                Part declaratives = new Part(22, 0, here());
                made.with(declaratives);
                say("DECLARATIVES", ".");
                declarativeNames.add(here());
                for (int i = random.nextInt(3); i > 0; i--) {
                    section(declaratives);
                }
                say("END", "DECLARATIVES", ".");
            }
            sentences(made);
            paragraphs(made);
            for (int i = random.nextInt(3); i > 0; i--) {
                section(made);
            }
        }

        void section(Part holder) {
            int place = here();
            Part made = new Part(23, name(), place);
            say("SECTION", ".");
            holder.with(made);
            sentences(made);
            paragraphs(made);
        }

        void paragraphs(Part holder) {
            for (int i = random.nextInt(3); i > 0; i--) {
                int place = here();
                Part made = new Part(24, name(), place);
                say(".");
                holder.with(made);
                sentences(made);
            }
        }

        void sentences(Part holder) {
            for (int i = random.nextInt(3); i > 0; i--) {
                Part made = new Part(25, 0, here());
                holder.with(made);
                statements(made, 0);
                say(".");
            }
        }

        Part list(int depth) {
            Part made = new Part(40, 0, here());
            statements(made, depth + 1);
            return made;
        }

        // A statement with a list would take all that follows, so such ones are always ended here.
        void statements(Part holder, int depth) {
            int count = 1 + random.nextInt(2);
            for (int i = 0; i < count; i++) {
                holder.with(statement(depth));
            }
        }

        Part nameOperand() {
            int at = here();
            return new Part(41, 100000 + name(), at);
        }

        Part literal(String mark) {
            int at = here();
            int value = random.nextInt(100);
            say(mark + value);
            return new Part(41, (mark.isEmpty() ? 200000 : 300000) + value, at);
        }

        Part operand() {
            int which = random.nextInt(3);
            return which == 0 ? nameOperand() : literal(which == 1 ? "" : "t");
        }

        Part statement(int depth) {
            int place = here();
            switch (random.nextInt(depth > 3 ? 7 : 13)) {
                case 0:
                    say("MOVE");
                    Part move = new Part(26, 0, place).with(operand());
                    say("TO");
                    names(move, 41);
                    return move;
                case 1:
                    say("DISPLAY");
                    Part display = new Part(33, 0, place);
                    for (int i = 1 + random.nextInt(3); i > 0; i--) {
                        display.with(operand());
                    }
                    return display;
                case 2:
                    say("GO");
                    perhaps("TO");
                    return new Part(34, name(), place);
                case 3:
                    say("STOP", "RUN");
                    return new Part(35, 0, place);
                case 4:
                    boolean exit = maybe(50);
                    say(exit ? "EXIT" : "CONTINUE");
                    return new Part(exit ? 36 : 37, 0, place);
                case 5:
                    say("COMPUTE");
                    int name = name();
                    say("=");
                    return ended(new Part(38, name, place).with(sum(0)), "END-COMPUTE", maybe(50));
                case 6:
                    return performElsewhere();
                case 7:
                    return add(depth);
                case 8:
                    return ifElse(depth);
                case 9:
                    return evaluate(depth);
                case 10:
                    return read(depth);
                case 11:
                    return call(depth);
                default:
                    return performHere(depth);
            }
        }

        Part ended(Part made, String end, boolean stands) {
            if (stands) {
                say(end);
                made.extra = 1;
            }
            return made;
        }

        Part add(int depth) {
            int place = here();
            say("ADD");
            List<Part> operands = new ArrayList<>();
            for (int i = 1 + random.nextInt(3); i > 0; i--) {
                operands.add(operand());
            }
            boolean giving = maybe(50);
            Part made = new Part(27, giving ? 1 : 0, place);
            operands.forEach(made::with);
            say(giving ? "GIVING" : "TO");
            if (giving) {
                made.with(nameOperand());
            } else {
                names(made, 41);
            }
            if (maybe(50)) {
                say("SIZE", "ERROR");
                made.with(list(depth));
            }
            return ended(made, "END-ADD", true);
        }

        Part branch(int depth) {
            if (maybe(80)) {
                return list(depth);
            }
            Part made = new Part(42, 0, here());
            say("NEXT", "SENTENCE");
            return made;
        }

        Part ifElse(int depth) {
            Part made = new Part(28, 0, here());
            say("IF");
            made.with(condition(0));
            perhaps("THEN");
            made.with(branch(depth));
            if (maybe(50)) {
                say("ELSE");
                made.with(branch(depth));
            }
            return ended(made, "END-IF", true);
        }

        Part evaluate(int depth) {
            Part made = new Part(30, 0, here());
            say("EVALUATE");
            made.with(operand());
            for (int i = 1 + random.nextInt(2); i > 0; i--) {
                Part when = new Part(46, 0, here());
                for (int k = 1 + random.nextInt(2); k > 0; k--) {
                    say("WHEN");
                    if (maybe(30)) {
                        when.with(new Part(47, 0, here()));
                        say("OTHER");
                    } else {
                        when.with(operand());
                    }
                }
                made.with(when.with(list(depth)));
            }
            return ended(made, "END-EVALUATE", true);
        }

        Part read(int depth) {
            int place = here();
            say("READ");
            Part made = new Part(31, name(), place);
            if (maybe(70)) {
                say("AT", "END");
                made.with(list(depth));
            }
            return ended(made, "END-READ", true);
        }

        Part call(int depth) {
            Part made = new Part(32, 0, here());
            say("CALL");
            made.with(maybe(50) ? nameOperand() : literal("t"));
            if (maybe(50)) {
                say("USING");
                names(made, 21);
            }
            if (maybe(50)) {
                say("EXCEPTION");
                made.with(list(depth));
            }
            return ended(made, "END-CALL", true);
        }

        Part performElsewhere() {
            Part made = new Part(29, 0, here());
            say("PERFORM");
            made.with(nameOperand());
            if (maybe(40)) {
                say("THRU");
                made.with(nameOperand());
            }
            phrase(made);
            return made;
        }

        Part performHere(int depth) {
            Part made = new Part(29, 1, here());
            say("PERFORM");
            phrase(made);
            made.with(list(depth));
            return ended(made, "END-PERFORM", true);
        }

        void phrase(Part holder) {
            int place = here();
            switch (random.nextInt(4)) {
                case 0:
                    holder.with(new Part(43, 0, place).with(maybe(50) ? nameOperand() : literal("")));
                    say("TIMES");
                    break;
                case 1:
                    say("UNTIL");
                    holder.with(new Part(44, 0, place).with(condition(0)));
                    break;
                case 2:
                    say("VARYING");
                    Part made = new Part(45, 0, place).with(nameOperand());
                    say("FROM");
                    made.with(operand());
                    say("BY");
                    made.with(operand());
                    say("UNTIL");
                    holder.with(made.with(condition(0)));
                    break;
                default:
            }
        }

        Part sum(int depth) {
            Part left = product(depth);
            for (int i = random.nextInt(3); i > 0; i--) {
                int sign = 5 + random.nextInt(2);
                say(sign == 5 ? "+" : "-");
                left = new Part(55, sign, left.place).with(left).with(product(depth));
            }
            return left;
        }

        Part product(int depth) {
            Part left = sumUnit(depth);
            for (int i = random.nextInt(2); i > 0; i--) {
                int sign = 7 + random.nextInt(2);
                say(sign == 7 ? "*" : "/");
                left = new Part(55, sign, left.place).with(left).with(sumUnit(depth));
            }
            return left;
        }

        Part sumUnit(int depth) {
            if (depth < 3 && maybe(30)) {
                say("(");
                Part inner = sum(depth + 1);
                say(")");
                return inner;
            }
            return maybe(50) ? nameOperand() : literal("");
        }

        Part condition(int depth) {
            subject = null;
            List<Part> parts = new ArrayList<>();
            for (int i = random.nextInt(3); i >= 0; i--) {
                parts.add(conjunction(depth));
                if (i > 0) {
                    say("OR");
                }
            }
            return joined(50, parts);
        }

        Part conjunction(int depth) {
            List<Part> parts = new ArrayList<>();
            for (int i = random.nextInt(3); i >= 0; i--) {
                parts.add(factor(depth));
                if (i > 0) {
                    say("AND");
                }
            }
            return joined(51, parts);
        }

        Part joined(int kind, List<Part> parts) {
            if (parts.size() == 1) {
                return parts.get(0);
            }
            Part made = new Part(kind, 0, parts.get(0).place);
            parts.forEach(made::with);
            return made;
        }

        Part factor(int depth) {
            int which = random.nextInt(10);
            if (which == 0 && depth < 4) {
                Part made = new Part(52, 0, here());
                say("NOT");
                int next = here();
                made.with(factor(depth + 1));
                // A comparing word has come behind NOT, which then is the relation's own.
                boolean sign = words.get(next)[0] == 5 && words.get(next)[1] >= 2;
                boolean written = words.get(next)[0] == 0 && words.get(next)[1] >= 68 && words.get(next)[1] <= 70;
                return sign || written ? becomesRelation(made) : made;
            }
            if (which == 1 && depth < 4) {
                say("(");
                Part inner = condition(depth + 1);
                say(")");
                subject = null;
                return inner;
            }
            return relation();
        }

        private Part becomesRelation(Part not) {
            Part inner = not.children.get(0);
            latest = inner.value + 3;
            Part made = new Part(53, latest, not.place);
            made.subject = inner.subject;
            inner.children.forEach(made::with);
            return made;
        }

        Part relation() {
            int place = here();
            int which = random.nextInt(4);
            if (subject != null && which == 0) {
                latest = comparing();
                return relation(place, null, operand());
            }
            if (subject != null && which == 1) {
                return relation(place, null, operand());
            }
            if (subject == null && which < 2) {
                return new Part(54, name(), place);
            }
            subject = operand();
            latest = comparing();
            return relation(place, subject, operand());
        }

        Part relation(int place, Part standing, Part other) {
            Part made = new Part(53, latest, place);
            made.subject = subject;
            if (standing != null) {
                made.with(standing);
            }
            return made.with(other);
        }

        int comparing() {
            perhaps("IS");
            int not = maybe(30) ? 3 : 0;
            if (not > 0) {
                say("NOT");
            }
            int how = random.nextInt(3);
            if (maybe(50)) {
                say(new String[] {"=", "<", ">"}[how]);
            } else {
                say(new String[] {"EQUAL", "LESS", "GREATER"}[how]);
                perhaps(how == 0 ? "TO" : "THAN");
            }
            return not + how;
        }
    }
}
