import java.util.Arrays;

/**
 * Reads a row of COBOL words, clause by clause, into a tree of numbered nodes, or into a list of faults.
 *
 * <p>Each class inside has one concern: Row the words and where reading stands, Tree the nodes, Leaves the nodes of
 * one word, Units the open programs, Items the data descriptions, Expressions, Statements, and Clauses, which chooses
 * among them.
 */
public final class CobolParser {
    public static final int NONE = -1;

    private static final int NO_SUCH_WORD = -4;
    private static final int MOST_WORDS = 1500;
    private static final int MOST_FAULTS = 20;
    private static final int MOST_NESTING = 40;
    private static final int MOST_OPEN_UNITS = 10;

    private static final int FAULT_BAD_WORD = 1;
    private static final int FAULT_OTHER_NAME = 2;
    private static final int FAULT_TOO_DEEP = 3;

    private static final int RESERVED = 0;
    private static final int NAME = 1;
    private static final int NUMBER = 2;
    private static final int TEXT = 3;
    private static final int PERIOD = 4;
    private static final int SIGN = 5;

    private static final int SIGN_OPEN = 0;
    private static final int SIGN_CLOSE = 1;
    private static final int SIGN_EQUAL = 2;
    private static final int SIGN_GREATER = 4;
    private static final int SIGN_PLUS = 5;
    private static final int SIGN_MINUS = 6;
    private static final int SIGN_TIMES = 7;
    private static final int SIGN_OVER = 8;

    private final Row row;
    private final Tree tree;
    private final Clauses clauses;

    public CobolParser() {
        row = new Row();
        tree = new Tree();
        Leaves leaves = new Leaves(row, tree);
        Statements statements = new Statements(row, tree, leaves, new Expressions(row, tree, leaves));
        clauses = new Clauses(row, tree, leaves, statements, new Items(row, tree, leaves));
    }

    public int word(int kind, int value) {
        if (!isWord(kind, value)) {
            return NO_SUCH_WORD;
        }
        return row.isFull() ? NONE : row.add(kind, value);
    }

    public int parse() throws IllegalStateException {
        row.start();
        tree.start();
        clauses.start();
        for (int i = 0; i < MOST_WORDS && row.goesOn(); i++) {
            try {
                clauses.readClause();
            } catch (IllegalArgumentException badClause) {
                row.recover();
            }
        }
        clauses.checkEnd();
        return finish();
    }

    public int node(int i, int what) {
        switch (what) {
            case 0:
                return tree.kindOf(i);
            case 1:
                return tree.valueOf(i);
            case 2:
                return tree.placeOf(i);
            case 3:
                return tree.childrenOf(i);
            case 4:
                return tree.parentOf(i);
            case 5:
                return tree.extraOf(i);
            default:
                return NONE;
        }
    }

    public int child(int i, int k) {
        return tree.childOf(i, k);
    }

    public int faults() {
        return row.faultCount();
    }

    public int fault(int i, int what) {
        switch (what) {
            case 0:
                return row.faultNumber(i);
            case 1:
                return row.faultPlace(i);
            default:
                return NONE;
        }
    }

    public int division(int k, int d) {
        int unit = tree.unitAt(k);
        switch (d) {
            case 0:
                return unit;
            case 1:
                return tree.childOfKind(unit, Node.ENVIRONMENT);
            case 2:
                return tree.childOfKind(unit, Node.DATA);
            case 3:
                return tree.childOfKind(unit, Node.PROCEDURE);
            default:
                return NONE;
        }
    }

    public int depth() {
        return tree.deepest();
    }

    public int count(int what) {
        switch (what) {
            case 0:
                return row.wordCount();
            case 1:
                return tree.nodeCount();
            case 2:
                return tree.unitCount();
            default:
                return NONE;
        }
    }

    private static boolean isWord(int kind, int value) {
        switch (kind) {
            case RESERVED:
                return value >= 0 && value <= Reserved.LATEST;
            case NAME:
            case TEXT:
                return value >= 0 && value <= 99;
            case NUMBER:
                return value >= 0 && value <= 99999;
            case PERIOD:
                return true;
            case SIGN:
                return value >= 0 && value <= SIGN_OVER;
            default:
                return false;
        }
    }

    // Apart from parse(), which catches what readers throw and so may hold no throw of its own.
    private int finish() {
        row.clear();
        if (row.faultCount() > 0) {
            throw new IllegalStateException("the words have faults");
        }
        tree.number();
        return tree.unitCount();
    }

    /** The values of RESERVED words. */
    private static final class Reserved {
        static final int ID = 0;
        static final int DIVISION = 1;
        static final int PROGRAM_ID = 2;
        static final int FUNCTION_ID = 3;
        static final int ENVIRONMENT = 4;
        static final int SELECT = 5;
        static final int ASSIGN = 6;
        static final int ORGANIZATION = 7;
        static final int SEQUENTIAL = 8;
        static final int RELATIVE = 9;
        static final int INDEXED = 10;
        static final int KEY = 11;
        static final int DATA = 12;
        static final int FILE = 13;
        static final int WORKING = 14;
        static final int LINKAGE = 15;
        static final int SECTION = 16;
        static final int FD = 17;
        static final int FILLER = 18;
        static final int PIC = 19;
        static final int VALUE = 20;
        static final int THRU = 21;
        static final int OCCURS = 22;
        static final int TIMES = 23;
        static final int DEPENDING = 24;
        static final int BY = 25;
        static final int REDEFINES = 26;
        static final int USAGE = 27;
        static final int COMP = 28;
        static final int DISPLAY = 29;
        static final int PROCEDURE = 30;
        static final int USING = 31;
        static final int DECLARATIVES = 32;
        static final int END = 33;
        static final int PROGRAM = 34;
        static final int FUNCTION = 35;
        static final int MOVE = 36;
        static final int ADD = 37;
        static final int IF = 38;
        static final int PERFORM = 39;
        static final int EVALUATE = 40;
        static final int READ = 41;
        static final int CALL = 42;
        static final int GO = 43;
        static final int STOP = 44;
        static final int EXIT = 45;
        static final int CONTINUE = 46;
        static final int COMPUTE = 47;
        static final int TO = 48;
        static final int GIVING = 49;
        static final int SIZE = 50;
        static final int ERROR = 51;
        static final int THEN = 52;
        static final int ELSE = 53;
        static final int NEXT = 54;
        static final int SENTENCE = 55;
        static final int UNTIL = 56;
        static final int VARYING = 57;
        static final int FROM = 58;
        static final int WHEN = 59;
        static final int OTHER = 60;
        static final int AT = 61;
        static final int EXCEPTION = 62;
        static final int RUN = 63;
        static final int NOT = 64;
        static final int AND = 65;
        static final int OR = 66;
        static final int IS = 67;
        static final int EQUAL = 68;
        static final int GREATER = 69;
        static final int LESS = 70;
        static final int THAN = 71;
        static final int END_ADD = 72;
        static final int END_IF = 73;
        static final int END_PERFORM = 74;
        static final int END_EVALUATE = 75;
        static final int END_READ = 76;
        static final int END_CALL = 77;
        static final int END_COMPUTE = 78;
        static final int LATEST = 78;
    }

    /** The kinds of nodes. */
    private static final class Node {
        static final int UNNAMED_UNIT = 0;
        static final int PROGRAM = 1;
        static final int FUNCTION = 2;
        static final int ENVIRONMENT = 3;
        static final int SELECT = 4;
        static final int ORGANIZATION = 5;
        static final int KEY = 6;
        static final int DATA = 7;
        static final int FILE = 8;
        static final int WORKING = 9;
        static final int LINKAGE = 10;
        static final int FD = 11;
        static final int ITEM = 12;
        static final int PIC = 13;
        static final int VALUE = 14;
        static final int OCCURS = 15;
        static final int DEPENDING = 16;
        static final int INDEXED = 17;
        static final int REDEFINES = 18;
        static final int USAGE = 19;
        static final int PROCEDURE = 20;
        static final int USING = 21;
        static final int DECLARATIVES = 22;
        static final int SECTION = 23;
        static final int PARAGRAPH = 24;
        static final int SENTENCE = 25;
        static final int MOVE = 26;
        static final int ADD = 27;
        static final int IF = 28;
        static final int PERFORM = 29;
        static final int EVALUATE = 30;
        static final int READ = 31;
        static final int CALL = 32;
        static final int DISPLAY = 33;
        static final int GO = 34;
        static final int STOP = 35;
        static final int EXIT = 36;
        static final int CONTINUE = 37;
        static final int COMPUTE = 38;
        static final int LIST = 40;
        static final int OPERAND = 41;
        static final int NEXT_SENTENCE = 42;
        static final int TIMES = 43;
        static final int UNTIL = 44;
        static final int VARYING = 45;
        static final int WHEN = 46;
        static final int OTHER = 47;
        static final int OR = 50;
        static final int AND = 51;
        static final int NOT = 52;
        static final int RELATION = 53;
        static final int CONDITION_NAME = 54;
        static final int ARITHMETIC = 55;
    }

    /** The words, the place that reading has come to, and the faults found on the way. */
    private static final class Row {
        private static final int FIRST_ROOM = 64;

        private int[] kinds = new int[FIRST_ROOM];
        private int[] values = new int[FIRST_ROOM];
        private int size = 0;
        private int at = 0;
        private int refusal = 0;
        private final int[] faultNumbers = new int[MOST_FAULTS];
        private final int[] faultPlaces = new int[MOST_FAULTS];
        private int faultSize = 0;

        boolean isFull() {
            return size >= MOST_WORDS;
        }

        int add(int kind, int value) {
            if (size >= kinds.length) {
                kinds = Arrays.copyOf(kinds, 2 * size);
                values = Arrays.copyOf(values, 2 * size);
            }
            kinds[size] = kind;
            values[size] = value;
            size++;
            return size;
        }

        int wordCount() {
            return size;
        }

        void start() {
            at = 0;
            faultSize = 0;
        }

        void clear() {
            size = 0;
            at = 0;
        }

        boolean goesOn() {
            return at < size && faultSize < MOST_FAULTS;
        }

        int place() {
            return at;
        }

        void advance() {
            if (at < size) {
                at++;
            }
        }

        boolean isKind(int kind) {
            return at < size && kinds[at] == kind;
        }

        boolean isReserved(int reserved, int ahead) {
            int i = at + ahead;
            return i >= 0 && i < size && kinds[i] == RESERVED && values[i] == reserved;
        }

        boolean isSign(int sign, int ahead) {
            int i = at + ahead;
            return i >= 0 && i < size && kinds[i] == SIGN && values[i] == sign;
        }

        boolean isOperand() {
            return at < size && (kinds[at] == NAME || kinds[at] == NUMBER || kinds[at] == TEXT);
        }

        boolean isComparingWord(int ahead) {
            int i = at + ahead;
            if (i < 0 || i >= size) {
                return false;
            }
            boolean sign = values[i] >= SIGN_EQUAL && values[i] <= SIGN_GREATER;
            boolean written = values[i] >= Reserved.EQUAL && values[i] <= Reserved.LESS;
            return kinds[i] == SIGN && sign || kinds[i] == RESERVED && written;
        }

        int kind() {
            return at < size ? kinds[at] : NONE;
        }

        int value() {
            return at < size ? values[at] : NONE;
        }

        boolean skip(int reserved) {
            boolean there = at < size && kinds[at] == RESERVED && values[at] == reserved;
            if (there) {
                at++;
            }
            return there;
        }

        void require(int reserved) {
            if (!skip(reserved)) {
                refuse(FAULT_BAD_WORD);
            }
        }

        void requireSign(int sign) {
            if (!isSign(sign, 0)) {
                refuse(FAULT_BAD_WORD);
            }
            advance();
        }

        int requireKind(int kind) {
            if (!isKind(kind)) {
                refuse(FAULT_BAD_WORD);
            }
            int found = value();
            advance();
            return found;
        }

        // The fault is noted by recover(), where the thrown clause is caught: reading has not moved till then.
        void refuse(int number) {
            refusal = number;
            throw new IllegalArgumentException("a bad clause");
        }

        void recover() {
            note(refusal, at);
            for (int i = at; i < size && kinds[i] != PERIOD; i++) {
                at++;
            }
            advance();
        }

        void note(int number, int place) {
            if (faultSize < MOST_FAULTS) {
                faultNumbers[faultSize] = number;
                faultPlaces[faultSize] = place;
                faultSize++;
            }
        }

        int faultCount() {
            return faultSize;
        }

        int faultNumber(int i) {
            return i >= 0 && i < faultSize ? faultNumbers[i] : NONE;
        }

        int faultPlace(int i) {
            return i >= 0 && i < faultSize ? faultPlaces[i] : NONE;
        }
    }

    /**
     * The nodes. OR, AND and ARITHMETIC are known only behind their first child, so nodes are made in any order, under
     * handles, and get the document's numbers at the end, when all of them hang together.
     */
    private static final class Tree {
        static final int ROOT = 0;

        static final int KIND = 0;
        static final int VALUE = 1;
        static final int PLACE = 2;
        // Of a RELATION its subject's handle, of a statement whether its scope end stands there.
        static final int EXTRA = 3;
        private static final int PARENT = 4;
        private static final int FIRST_CHILD = 5;
        private static final int LAST_CHILD = 6;
        private static final int NEXT = 7;
        private static final int CHILDREN = 8;
        private static final int LEVEL = 9;
        private static final int NUMBER_OF_HANDLE = 10;
        private static final int HANDLE_OF_NUMBER = 11;
        private static final int CELLS = 12;
        private static final int FIRST_ROOM = 96;

        // One row for all cells of all nodes, so that it grows in one piece.
        private int[] cells = new int[FIRST_ROOM * CELLS];
        private int made = 0;
        private int numbered = 0;
        private int units = 0;
        private int greatestLevel = 0;

        void start() {
            made = 0;
            numbered = 0;
            units = 0;
            greatestLevel = 0;
            make(NONE, 0, NONE);
        }

        int make(int kind, int value, int place) {
            int base = made * CELLS;
            if (base + CELLS > cells.length) {
                cells = Arrays.copyOf(cells, 2 * cells.length);
            }
            for (int cell = 0; cell < CELLS; cell++) {
                cells[base + cell] = NONE;
            }
            cells[base + KIND] = kind;
            cells[base + VALUE] = value;
            cells[base + PLACE] = place;
            cells[base + CHILDREN] = 0;
            cells[base + LEVEL] = 0;
            made++;
            return made - 1;
        }

        void append(int parent, int child) {
            if (parent < 0 || parent >= made || child < 0 || child >= made) {
                return;
            }
            int base = parent * CELLS;
            int last = cells[base + LAST_CHILD];
            if (last >= 0 && last < made) {
                cells[last * CELLS + NEXT] = child;
            } else {
                cells[base + FIRST_CHILD] = child;
            }
            cells[base + LAST_CHILD] = child;
            cells[base + CHILDREN]++;
            cells[child * CELLS + PARENT] = parent;
        }

        int get(int handle, int cell) {
            return handle >= 0 && handle < made && cell >= 0 && cell < CELLS ? cells[handle * CELLS + cell] : NONE;
        }

        void set(int handle, int cell, int content) {
            if (handle >= 0 && handle < made && cell >= 0 && cell < CELLS) {
                cells[handle * CELLS + cell] = content;
            }
        }

        void number() {
            int handle = get(ROOT, FIRST_CHILD);
            for (int i = 0; i < made && handle != NONE; i++) {
                set(i, HANDLE_OF_NUMBER, handle);
                set(handle, NUMBER_OF_HANDLE, i);
                int level = get(get(handle, PARENT), LEVEL) + 1;
                set(handle, LEVEL, level);
                greatestLevel = Math.max(greatestLevel, level);
                units += isUnit(handle) ? 1 : 0;
                numbered = i + 1;
                handle = follower(handle);
            }
        }

        int nodeCount() {
            return numbered;
        }

        int unitCount() {
            return units;
        }

        int deepest() {
            return greatestLevel;
        }

        int kindOf(int i) {
            return get(handleOf(i), KIND);
        }

        int valueOf(int i) {
            return get(handleOf(i), VALUE);
        }

        int placeOf(int i) {
            return get(handleOf(i), PLACE);
        }

        int childrenOf(int i) {
            return get(handleOf(i), CHILDREN);
        }

        int parentOf(int i) {
            return numberOf(get(handleOf(i), PARENT));
        }

        int extraOf(int i) {
            int extra = get(handleOf(i), EXTRA);
            return kindOf(i) == Node.RELATION ? numberOf(extra) : extra;
        }

        int childOf(int i, int k) {
            int handle = handleOf(i);
            if (k < 0 || k >= get(handle, CHILDREN)) {
                return NONE;
            }
            int child = get(handle, FIRST_CHILD);
            for (int passed = 0; passed < k; passed++) {
                child = get(child, NEXT);
            }
            return numberOf(child);
        }

        int childOfKind(int i, int kind) {
            int handle = handleOf(i);
            int child = get(handle, FIRST_CHILD);
            for (int k = 0; k < get(handle, CHILDREN); k++) {
                if (get(child, KIND) == kind) {
                    return numberOf(child);
                }
                child = get(child, NEXT);
            }
            return NONE;
        }

        int unitAt(int k) {
            int passed = 0;
            for (int i = 0; i < numbered; i++) {
                if (isUnit(handleOf(i))) {
                    if (passed == k) {
                        return i;
                    }
                    passed++;
                }
            }
            return NONE;
        }

        private boolean isUnit(int handle) {
            int kind = get(handle, KIND);
            return kind == Node.PROGRAM || kind == Node.FUNCTION;
        }

        private int handleOf(int i) {
            return i >= 0 && i < numbered ? get(i, HANDLE_OF_NUMBER) : NONE;
        }

        private int numberOf(int handle) {
            return get(handle, NUMBER_OF_HANDLE);
        }

        private int follower(int handle) {
            if (get(handle, FIRST_CHILD) != NONE) {
                return get(handle, FIRST_CHILD);
            }
            int up = handle;
            for (int i = 0; i < made && get(up, NEXT) == NONE; i++) {
                up = get(up, PARENT);
            }
            return get(up, NEXT);
        }
    }

    /** Nodes that one word makes, and rows of them. */
    private static final class Leaves {
        private static final int KIND_WEIGHT = 100000;

        private final Row row;
        private final Tree tree;

        Leaves(Row row, Tree tree) {
            this.row = row;
            this.tree = tree;
        }

        int operand() {
            if (!row.isOperand()) {
                row.refuse(FAULT_BAD_WORD);
            }
            int made = tree.make(Node.OPERAND, KIND_WEIGHT * row.kind() + row.value(), row.place());
            row.advance();
            return made;
        }

        void operandIn(int holder) {
            tree.append(holder, operand());
        }

        void nameIn(int holder, int kind) {
            if (!row.isKind(NAME)) {
                row.refuse(FAULT_BAD_WORD);
            }
            int weight = kind == Node.OPERAND ? KIND_WEIGHT * NAME : 0;
            tree.append(holder, tree.make(kind, weight + row.value(), row.place()));
            row.advance();
        }

        void namesIn(int holder, int kind) {
            nameIn(holder, kind);
            for (int i = 0; i < MOST_WORDS && row.isKind(NAME); i++) {
                nameIn(holder, kind);
            }
        }
    }

    /** The open programs and functions, each in the one ahead of it. */
    private static final class Units {
        private final int[] states = new int[MOST_OPEN_UNITS];
        private final int[] kinds = new int[MOST_OPEN_UNITS];
        private final int[] names = new int[MOST_OPEN_UNITS];
        private final int[] handles = new int[MOST_OPEN_UNITS];
        private int size = 0;

        void start() {
            size = 0;
        }

        int openCount() {
            return size;
        }

        boolean isFull() {
            return size >= MOST_OPEN_UNITS;
        }

        void open(int handle) {
            if (size < MOST_OPEN_UNITS) {
                states[size] = 0;
                kinds[size] = Node.UNNAMED_UNIT;
                names[size] = NONE;
                handles[size] = handle;
                size++;
            }
        }

        void close() {
            if (size > 0) {
                size--;
            }
        }

        void identify(int kind, int name) {
            if (size > 0) {
                kinds[size - 1] = kind;
                names[size - 1] = name;
            }
        }

        void setState(int state) {
            if (size > 0) {
                states[size - 1] = state;
            }
        }

        int state() {
            return size > 0 ? states[size - 1] : NONE;
        }

        int kind() {
            return size > 0 ? kinds[size - 1] : NONE;
        }

        int name() {
            return size > 0 ? names[size - 1] : NONE;
        }

        int handle() {
            return size > 0 ? handles[size - 1] : Tree.ROOT;
        }
    }

    /** Data descriptions, each in the item that its level asks for. */
    private static final class Items {
        private static final int LEVEL_TOP = 1;
        private static final int LEVEL_DEEPEST = 49;
        private static final int LEVEL_ALONE = 77;
        private static final int LEVEL_CONDITION = 88;
        private static final int LEVEL_WEIGHT = 1000;

        private final Row row;
        private final Tree tree;
        private final Leaves leaves;
        // The levels of open items grow strictly, so there are never more of them than levels.
        private final int[] openLevels = new int[LEVEL_DEEPEST];
        private final int[] openHandles = new int[LEVEL_DEEPEST];
        private int openSize = 0;
        private int holder = NONE;

        Items(Row row, Tree tree, Leaves leaves) {
            this.row = row;
            this.tree = tree;
            this.leaves = leaves;
        }

        void startIn(int newHolder) {
            holder = newHolder;
            openSize = 0;
        }

        void readItem() {
            int level = row.value();
            int kept = keptOpen(level);
            if (kept == NONE) {
                row.refuse(FAULT_BAD_WORD);
            }
            int item = tree.make(Node.ITEM, 0, row.place());
            row.advance();
            tree.set(item, Tree.VALUE, LEVEL_WEIGHT * level + nameOrFiller());
            for (int i = 0; i < MOST_WORDS && !row.isKind(PERIOD); i++) {
                itemClause(item);
            }
            row.requireKind(PERIOD);
            place(item, level, kept);
        }

        // How many of the open items stay open around one of this level, NONE if it may not come.
        private int keptOpen(int level) {
            if (level == LEVEL_TOP || level == LEVEL_ALONE) {
                return 0;
            }
            if (level == LEVEL_CONDITION) {
                return openSize > 0 ? openSize : NONE;
            }
            if (level < LEVEL_TOP || level > LEVEL_DEEPEST) {
                return NONE;
            }
            for (int i = openSize; i > 0 && i <= LEVEL_DEEPEST; i--) {
                if (openLevels[i - 1] < level) {
                    return i;
                }
            }
            return NONE;
        }

        // Only here do open items end: a bad description has changed nothing.
        private void place(int item, int level, int kept) {
            boolean inItem = kept > 0 && kept <= LEVEL_DEEPEST;
            tree.append(inItem ? openHandles[kept - 1] : holder, item);
            if (level != LEVEL_CONDITION && kept >= 0 && kept < LEVEL_DEEPEST) {
                openLevels[kept] = level;
                openHandles[kept] = item;
                openSize = kept + 1;
            }
        }

        private int nameOrFiller() {
            if (row.isKind(NAME)) {
                return row.requireKind(NAME) + 1;
            }
            row.skip(Reserved.FILLER);
            return 0;
        }

        private void itemClause(int item) {
            if (!row.isKind(RESERVED)) {
                row.refuse(FAULT_BAD_WORD);
            }
            switch (row.value()) {
                case Reserved.PIC:
                    picture(item);
                    break;
                case Reserved.VALUE:
                    literals(item);
                    break;
                case Reserved.OCCURS:
                    occurs(item);
                    break;
                case Reserved.REDEFINES:
                    redefines(item);
                    break;
                case Reserved.USAGE:
                    usage(item);
                    break;
                default:
                    row.refuse(FAULT_BAD_WORD);
            }
        }

        private int beginIn(int item, int kind) {
            int made = tree.make(kind, 0, row.place());
            tree.append(item, made);
            row.advance();
            return made;
        }

        private void picture(int item) {
            int made = beginIn(item, Node.PIC);
            row.skip(Reserved.IS);
            tree.set(made, Tree.VALUE, row.requireKind(TEXT));
        }

        private void literals(int item) {
            int made = beginIn(item, Node.VALUE);
            row.skip(Reserved.IS);
            literal(made);
            if (row.skip(Reserved.THRU)) {
                literal(made);
            }
        }

        private void literal(int holderOfIt) {
            if (row.isKind(NAME)) {
                row.refuse(FAULT_BAD_WORD);
            }
            tree.append(holderOfIt, leaves.operand());
        }

        private void occurs(int item) {
            int made = beginIn(item, Node.OCCURS);
            tree.set(made, Tree.VALUE, row.requireKind(NUMBER));
            row.skip(Reserved.TIMES);
            if (row.skip(Reserved.DEPENDING)) {
                leaves.nameIn(made, Node.DEPENDING);
            }
            if (row.skip(Reserved.INDEXED)) {
                row.skip(Reserved.BY);
                leaves.namesIn(made, Node.INDEXED);
            }
        }

        private void redefines(int item) {
            int made = beginIn(item, Node.REDEFINES);
            tree.set(made, Tree.VALUE, row.requireKind(NAME));
        }

        private void usage(int item) {
            int made = beginIn(item, Node.USAGE);
            row.skip(Reserved.IS);
            if (row.skip(Reserved.DISPLAY)) {
                tree.set(made, Tree.VALUE, 1);
            } else {
                row.require(Reserved.COMP);
            }
        }
    }

    /**
     * Sums and conditions; what is read is handed back, to be put in its place by the caller. What calls itself is
     * private, here and in Statements, though the classes beside it begin the calls.
     */
    private static final class Expressions {
        private static final int HOW_EQUAL = 0;
        private static final int HOW_LESS = 1;
        private static final int HOW_GREATER = 2;
        private static final int HOW_NOT = 3;

        private final Row row;
        private final Tree tree;
        private final Leaves leaves;
        private int subject = NONE;
        private int latestHow = HOW_EQUAL;

        Expressions(Row row, Tree tree, Leaves leaves) {
            this.row = row;
            this.tree = tree;
            this.leaves = leaves;
        }

        private int sum(int nesting) {
            int left = product(nesting);
            for (int i = 0; i < MOST_WORDS && (row.isSign(SIGN_PLUS, 0) || row.isSign(SIGN_MINUS, 0)); i++) {
                int made = join(Node.ARITHMETIC, row.value(), left);
                row.advance();
                tree.append(made, product(nesting));
                left = made;
            }
            return left;
        }

        private int product(int nesting) {
            int left = sumUnit(nesting);
            for (int i = 0; i < MOST_WORDS && (row.isSign(SIGN_TIMES, 0) || row.isSign(SIGN_OVER, 0)); i++) {
                int made = join(Node.ARITHMETIC, row.value(), left);
                row.advance();
                tree.append(made, sumUnit(nesting));
                left = made;
            }
            return left;
        }

        private int sumUnit(int nesting) {
            if (row.isSign(SIGN_OPEN, 0)) {
                goDeeper(nesting + 1);
                int inner = sum(nesting + 1);
                row.requireSign(SIGN_CLOSE);
                return inner;
            }
            if (row.isKind(TEXT)) {
                row.refuse(FAULT_BAD_WORD);
            }
            return leaves.operand();
        }

        private int condition(int nesting) {
            subject = NONE;
            int first = conjunction(nesting);
            if (!row.isReserved(Reserved.OR, 0)) {
                return first;
            }
            int made = join(Node.OR, 0, first);
            for (int i = 0; i < MOST_WORDS && row.skip(Reserved.OR); i++) {
                tree.append(made, conjunction(nesting));
            }
            return made;
        }

        private int conjunction(int nesting) {
            int first = factor(nesting);
            if (!row.isReserved(Reserved.AND, 0)) {
                return first;
            }
            int made = join(Node.AND, 0, first);
            for (int i = 0; i < MOST_WORDS && row.skip(Reserved.AND); i++) {
                tree.append(made, factor(nesting));
            }
            return made;
        }

        private int factor(int nesting) {
            if (row.isReserved(Reserved.NOT, 0) && !row.isComparingWord(1)) {
                int made = tree.make(Node.NOT, 0, row.place());
                goDeeper(nesting + 1);
                tree.append(made, factor(nesting + 1));
                return made;
            }
            if (row.isSign(SIGN_OPEN, 0)) {
                goDeeper(nesting + 1);
                int inner = condition(nesting + 1);
                row.requireSign(SIGN_CLOSE);
                subject = NONE;
                return inner;
            }
            return relation();
        }

        private int relation() {
            int place = row.place();
            boolean whole = row.isOperand() && isComparing(1);
            boolean withoutSubject = isComparing(0);
            if (!whole && subject == NONE) {
                return conditionName(place);
            }
            if (whole) {
                subject = leaves.operand();
            }
            if (whole || withoutSubject) {
                latestHow = comparing();
            }
            int made = tree.make(Node.RELATION, latestHow, place);
            tree.set(made, Tree.EXTRA, subject);
            if (whole) {
                tree.append(made, subject);
            }
            tree.append(made, leaves.operand());
            return made;
        }

        // A NUMBER or TEXT might still have been a subject, so the word behind it is the bad one.
        private int conditionName(int place) {
            if (!row.isKind(NAME)) {
                if (row.isOperand()) {
                    row.advance();
                }
                row.refuse(FAULT_BAD_WORD);
            }
            int made = tree.make(Node.CONDITION_NAME, row.value(), place);
            row.advance();
            return made;
        }

        private boolean isComparing(int ahead) {
            return row.isReserved(Reserved.IS, ahead)
                || row.isComparingWord(ahead)
                || row.isReserved(Reserved.NOT, ahead) && row.isComparingWord(ahead + 1);
        }

        private int comparing() {
            row.skip(Reserved.IS);
            int not = row.skip(Reserved.NOT) ? HOW_NOT : 0;
            if (row.skip(Reserved.EQUAL)) {
                row.skip(Reserved.TO);
                return not + HOW_EQUAL;
            }
            if (row.skip(Reserved.LESS)) {
                row.skip(Reserved.THAN);
                return not + HOW_LESS;
            }
            if (row.skip(Reserved.GREATER)) {
                row.skip(Reserved.THAN);
                return not + HOW_GREATER;
            }
            if (!row.isKind(SIGN) || row.value() < SIGN_EQUAL || row.value() > SIGN_GREATER) {
                row.refuse(FAULT_BAD_WORD);
            }
            int how = row.value() - SIGN_EQUAL;
            row.advance();
            return not + how;
        }

        private int join(int kind, int value, int first) {
            int made = tree.make(kind, value, tree.get(first, Tree.PLACE));
            tree.append(made, first);
            return made;
        }

        private void goDeeper(int nesting) {
            if (nesting > MOST_NESTING) {
                row.refuse(FAULT_TOO_DEEP);
            }
            row.advance();
        }
    }

    /** Statements, and the lists of them that stand in one another. */
    private static final class Statements {
        private final Row row;
        private final Tree tree;
        private final Leaves leaves;
        private final Expressions expressions;

        Statements(Row row, Tree tree, Leaves leaves, Expressions expressions) {
            this.row = row;
            this.tree = tree;
            this.leaves = leaves;
            this.expressions = expressions;
        }

        boolean isNext() {
            int value = row.value();
            boolean verb = value >= Reserved.MOVE && value <= Reserved.COMPUTE || value == Reserved.DISPLAY;
            return row.isKind(RESERVED) && verb;
        }

        // A SENTENCE and a LIST differ in their kind and in how deep they stand alone.
        private int list(int kind, int nesting) {
            if (!isNext()) {
                row.refuse(FAULT_BAD_WORD);
            }
            if (nesting > MOST_NESTING) {
                row.refuse(FAULT_TOO_DEEP);
            }
            int made = tree.make(kind, 0, row.place());
            for (int i = 0; i < MOST_WORDS && isNext(); i++) {
                tree.append(made, statement(nesting));
            }
            return made;
        }

        private int statement(int nesting) {
            switch (row.value()) {
                case Reserved.MOVE:
                    return move();
                case Reserved.ADD:
                    return add(nesting);
                case Reserved.IF:
                    return ifElse(nesting);
                case Reserved.PERFORM:
                    return perform(nesting);
                case Reserved.EVALUATE:
                    return evaluate(nesting);
                case Reserved.READ:
                    return read(nesting);
                case Reserved.CALL:
                    return call(nesting);
                case Reserved.DISPLAY:
                    return display();
                case Reserved.GO:
                    return goTo();
                case Reserved.STOP:
                    return stop();
                case Reserved.EXIT:
                    return begin(Node.EXIT);
                case Reserved.CONTINUE:
                    return begin(Node.CONTINUE);
                default:
                    return compute(nesting);
            }
        }

        private int begin(int kind) {
            int made = tree.make(kind, 0, row.place());
            tree.set(made, Tree.EXTRA, 0);
            row.advance();
            return made;
        }

        private void scopeEnd(int made, int reserved) {
            if (row.skip(reserved)) {
                tree.set(made, Tree.EXTRA, 1);
            }
        }

        private void operandsIn(int made) {
            tree.append(made, leaves.operand());
            for (int i = 0; i < MOST_WORDS && row.isOperand(); i++) {
                tree.append(made, leaves.operand());
            }
        }

        private int move() {
            int made = begin(Node.MOVE);
            leaves.operandIn(made);
            row.require(Reserved.TO);
            leaves.namesIn(made, Node.OPERAND);
            return made;
        }

        private int display() {
            int made = begin(Node.DISPLAY);
            operandsIn(made);
            return made;
        }

        private int goTo() {
            int made = begin(Node.GO);
            row.skip(Reserved.TO);
            tree.set(made, Tree.VALUE, row.requireKind(NAME));
            return made;
        }

        private int stop() {
            int made = begin(Node.STOP);
            row.require(Reserved.RUN);
            return made;
        }

        private int compute(int nesting) {
            int made = begin(Node.COMPUTE);
            tree.set(made, Tree.VALUE, row.requireKind(NAME));
            row.requireSign(SIGN_EQUAL);
            tree.append(made, expressions.sum(nesting));
            scopeEnd(made, Reserved.END_COMPUTE);
            return made;
        }

        private int add(int nesting) {
            int made = begin(Node.ADD);
            operandsIn(made);
            if (row.skip(Reserved.GIVING)) {
                tree.set(made, Tree.VALUE, 1);
                leaves.nameIn(made, Node.OPERAND);
            } else {
                row.require(Reserved.TO);
                leaves.namesIn(made, Node.OPERAND);
            }
            if (row.skip(Reserved.SIZE)) {
                row.require(Reserved.ERROR);
                tree.append(made, list(Node.LIST, nesting + 1));
            }
            scopeEnd(made, Reserved.END_ADD);
            return made;
        }

        private int ifElse(int nesting) {
            int made = begin(Node.IF);
            tree.append(made, expressions.condition(nesting));
            row.skip(Reserved.THEN);
            tree.append(made, branch(nesting));
            if (row.skip(Reserved.ELSE)) {
                tree.append(made, branch(nesting));
            }
            scopeEnd(made, Reserved.END_IF);
            return made;
        }

        private int branch(int nesting) {
            if (!row.isReserved(Reserved.NEXT, 0)) {
                return list(Node.LIST, nesting + 1);
            }
            int made = tree.make(Node.NEXT_SENTENCE, 0, row.place());
            row.advance();
            row.require(Reserved.SENTENCE);
            return made;
        }

        private int evaluate(int nesting) {
            int made = begin(Node.EVALUATE);
            leaves.operandIn(made);
            if (!row.isReserved(Reserved.WHEN, 0)) {
                row.refuse(FAULT_BAD_WORD);
            }
            for (int i = 0; i < MOST_WORDS && row.isReserved(Reserved.WHEN, 0); i++) {
                tree.append(made, when(nesting));
            }
            scopeEnd(made, Reserved.END_EVALUATE);
            return made;
        }

        private int when(int nesting) {
            int made = tree.make(Node.WHEN, 0, row.place());
            for (int i = 0; i < MOST_WORDS && row.skip(Reserved.WHEN); i++) {
                if (row.isReserved(Reserved.OTHER, 0)) {
                    tree.append(made, tree.make(Node.OTHER, 0, row.place()));
                    row.advance();
                } else {
                    leaves.operandIn(made);
                }
            }
            tree.append(made, list(Node.LIST, nesting + 1));
            return made;
        }

        private int read(int nesting) {
            int made = begin(Node.READ);
            tree.set(made, Tree.VALUE, row.requireKind(NAME));
            if (row.skip(Reserved.AT)) {
                row.require(Reserved.END);
                tree.append(made, list(Node.LIST, nesting + 1));
            }
            scopeEnd(made, Reserved.END_READ);
            return made;
        }

        private int call(int nesting) {
            int made = begin(Node.CALL);
            if (row.isKind(NUMBER)) {
                row.refuse(FAULT_BAD_WORD);
            }
            leaves.operandIn(made);
            if (row.skip(Reserved.USING)) {
                leaves.namesIn(made, Node.USING);
            }
            if (row.skip(Reserved.EXCEPTION)) {
                tree.append(made, list(Node.LIST, nesting + 1));
            }
            scopeEnd(made, Reserved.END_CALL);
            return made;
        }

        private int perform(int nesting) {
            int made = begin(Node.PERFORM);
            boolean elsewhere = row.isKind(NAME) && !row.isReserved(Reserved.TIMES, 1);
            if (elsewhere) {
                leaves.nameIn(made, Node.OPERAND);
                if (row.skip(Reserved.THRU)) {
                    leaves.nameIn(made, Node.OPERAND);
                }
            }
            if (row.isKind(NUMBER) || row.isKind(NAME) && row.isReserved(Reserved.TIMES, 1)) {
                times(made);
            } else if (row.isReserved(Reserved.UNTIL, 0)) {
                int until = phraseIn(made, Node.UNTIL);
                row.require(Reserved.UNTIL);
                tree.append(until, expressions.condition(nesting));
            } else if (row.isReserved(Reserved.VARYING, 0)) {
                int varying = varying(made);
                row.require(Reserved.UNTIL);
                tree.append(varying, expressions.condition(nesting));
            }
            if (!elsewhere) {
                tree.append(made, list(Node.LIST, nesting + 1));
                row.require(Reserved.END_PERFORM);
                tree.set(made, Tree.VALUE, 1);
                tree.set(made, Tree.EXTRA, 1);
            }
            return made;
        }

        private void times(int holder) {
            int made = phraseIn(holder, Node.TIMES);
            leaves.operandIn(made);
            row.require(Reserved.TIMES);
        }

        private int varying(int holder) {
            int made = phraseIn(holder, Node.VARYING);
            row.advance();
            leaves.nameIn(made, Node.OPERAND);
            row.require(Reserved.FROM);
            leaves.operandIn(made);
            row.require(Reserved.BY);
            leaves.operandIn(made);
            return made;
        }

        private int phraseIn(int holder, int kind) {
            int made = tree.make(kind, 0, row.place());
            tree.append(holder, made);
            return made;
        }
    }

    /**
     * Clauses, each up to its period. A method here changes units, sections and items only behind the period, as a bad
     * clause changes nothing; nodes may be made earlier, as there is no tree where a clause was bad.
     */
    private static final class Clauses {
        private static final int BEGUN = 0;
        private static final int NAMED = 1;
        private static final int IN_ENVIRONMENT = 2;
        private static final int IN_DATA = 3;
        private static final int IN_FILES = 4;
        private static final int IN_FD = 5;
        private static final int IN_WORKING = 6;
        private static final int IN_LINKAGE = 7;
        private static final int IN_PROCEDURE = 8;
        private static final int IN_DECLARATIVES = 9;
        private static final int BEHIND_DECLARATIVES = 10;
        private static final int IN_BODY = 11;
        private static final int WITH_CONTAINED = 12;

        private final Row row;
        private final Tree tree;
        private final Leaves leaves;
        private final Statements statements;
        private final Items items;
        private final Units units = new Units();
        // Of the innermost unit alone: one that contains another has no more use for them.
        private int openDivision = NONE;
        private int declaratives = NONE;
        private int section = NONE;
        private int paragraph = NONE;

        Clauses(Row row, Tree tree, Leaves leaves, Statements statements, Items items) {
            this.row = row;
            this.tree = tree;
            this.leaves = leaves;
            this.statements = statements;
            this.items = items;
        }

        void start() {
            units.start();
        }

        void checkEnd() {
            int state = units.state();
            boolean mayBeOpen = state != BEGUN && state != IN_DECLARATIVES && state != WITH_CONTAINED;
            if (units.openCount() > 1 || units.openCount() == 1 && !mayBeOpen) {
                row.note(FAULT_BAD_WORD, row.place());
            }
        }

        void readClause() {
            if (row.isKind(NAME)) {
                sectionOrParagraph();
            } else if (row.isKind(NUMBER)) {
                requireState(IN_FD, IN_LINKAGE);
                items.readItem();
            } else if (statements.isNext()) {
                sentence();
            } else if (row.isKind(RESERVED)) {
                reservedClause();
            } else {
                row.refuse(FAULT_BAD_WORD);
            }
        }

        private void reservedClause() {
            switch (row.value()) {
                case Reserved.ID:
                    identification();
                    break;
                case Reserved.PROGRAM_ID:
                    requireState(BEGUN, BEGUN);
                    unitName(Node.PROGRAM);
                    break;
                case Reserved.FUNCTION_ID:
                    requireState(BEGUN, BEGUN);
                    requireThat(units.openCount() == 1);
                    unitName(Node.FUNCTION);
                    break;
                case Reserved.ENVIRONMENT:
                    requireState(NAMED, NAMED);
                    openDivision = heading(Node.ENVIRONMENT, Reserved.DIVISION, units.handle());
                    units.setState(IN_ENVIRONMENT);
                    break;
                case Reserved.SELECT:
                    requireState(IN_ENVIRONMENT, IN_ENVIRONMENT);
                    select();
                    break;
                case Reserved.PROCEDURE:
                    requireState(NAMED, IN_LINKAGE);
                    procedure();
                    break;
                case Reserved.DECLARATIVES:
                    requireState(IN_PROCEDURE, IN_PROCEDURE);
                    beginDeclaratives();
                    break;
                case Reserved.END:
                    endSomething();
                    break;
                default:
                    dataClause();
            }
        }

        private void dataClause() {
            switch (row.value()) {
                case Reserved.DATA:
                    requireState(NAMED, IN_ENVIRONMENT);
                    openDivision = heading(Node.DATA, Reserved.DIVISION, units.handle());
                    units.setState(IN_DATA);
                    break;
                case Reserved.FILE:
                    requireState(IN_DATA, IN_DATA);
                    dataSection(Node.FILE, IN_FILES);
                    break;
                case Reserved.WORKING:
                    requireState(IN_DATA, IN_FD);
                    dataSection(Node.WORKING, IN_WORKING);
                    break;
                case Reserved.LINKAGE:
                    requireState(IN_DATA, IN_WORKING);
                    dataSection(Node.LINKAGE, IN_LINKAGE);
                    break;
                case Reserved.FD:
                    requireState(IN_FILES, IN_FD);
                    fileDescription();
                    break;
                default:
                    row.refuse(FAULT_BAD_WORD);
            }
        }

        private void requireThat(boolean may) {
            if (!may) {
                row.refuse(FAULT_BAD_WORD);
            }
        }

        private void requireState(int lowest, int highest) {
            requireThat(units.state() >= lowest && units.state() <= highest);
        }

        private boolean mayEndOrContain() {
            return units.state() >= NAMED && units.state() != IN_DECLARATIVES;
        }

        private int heading(int kind, int second, int holder) {
            int made = tree.make(kind, 0, row.place());
            row.advance();
            row.require(second);
            row.requireKind(PERIOD);
            tree.append(holder, made);
            return made;
        }

        private void identification() {
            requireThat(units.openCount() == 0 || units.kind() == Node.PROGRAM && mayEndOrContain());
            if (units.isFull()) {
                row.refuse(FAULT_TOO_DEEP);
            }
            int made = heading(Node.UNNAMED_UNIT, Reserved.DIVISION, units.handle());
            units.setState(WITH_CONTAINED);
            units.open(made);
        }

        private void unitName(int kind) {
            row.advance();
            int name = row.requireKind(NAME);
            row.requireKind(PERIOD);
            units.identify(kind, name);
            units.setState(NAMED);
            tree.set(units.handle(), Tree.KIND, kind);
            tree.set(units.handle(), Tree.VALUE, name);
        }

        private void select() {
            int made = tree.make(Node.SELECT, 0, row.place());
            row.advance();
            tree.set(made, Tree.VALUE, row.requireKind(NAME));
            row.require(Reserved.ASSIGN);
            row.skip(Reserved.TO);
            requireThat(!row.isKind(NUMBER));
            leaves.operandIn(made);
            if (row.isReserved(Reserved.ORGANIZATION, 0)) {
                organization(made);
            }
            if (row.isReserved(Reserved.KEY, 0)) {
                key(made);
            }
            row.requireKind(PERIOD);
            tree.append(openDivision, made);
        }

        private void organization(int holder) {
            int place = row.place();
            row.advance();
            row.skip(Reserved.IS);
            int how = row.value() - Reserved.SEQUENTIAL;
            requireThat(row.isKind(RESERVED) && how >= 0 && how <= Reserved.INDEXED - Reserved.SEQUENTIAL);
            row.advance();
            tree.append(holder, tree.make(Node.ORGANIZATION, how, place));
        }

        private void key(int holder) {
            int place = row.place();
            row.advance();
            row.skip(Reserved.IS);
            tree.append(holder, tree.make(Node.KEY, row.requireKind(NAME), place));
        }

        private void dataSection(int kind, int newState) {
            section = heading(kind, Reserved.SECTION, openDivision);
            units.setState(newState);
            items.startIn(section);
        }

        private void fileDescription() {
            int place = row.place();
            row.advance();
            int made = tree.make(Node.FD, row.requireKind(NAME), place);
            row.requireKind(PERIOD);
            tree.append(section, made);
            units.setState(IN_FD);
            items.startIn(made);
        }

        private void procedure() {
            int made = tree.make(Node.PROCEDURE, 0, row.place());
            row.advance();
            row.require(Reserved.DIVISION);
            if (row.skip(Reserved.USING)) {
                leaves.namesIn(made, Node.USING);
            }
            row.requireKind(PERIOD);
            tree.append(units.handle(), made);
            openDivision = made;
            section = NONE;
            paragraph = NONE;
            units.setState(IN_PROCEDURE);
        }

        private void beginDeclaratives() {
            int made = tree.make(Node.DECLARATIVES, 0, row.place());
            row.advance();
            row.requireKind(PERIOD);
            tree.append(openDivision, made);
            declaratives = made;
            units.setState(IN_DECLARATIVES);
        }

        // The second word chooses the clause; one that may not come in this state is bad from its first word on.
        private void endSomething() {
            if (row.isReserved(Reserved.DECLARATIVES, 1)) {
                requireState(IN_DECLARATIVES, IN_DECLARATIVES);
                endDeclaratives();
            } else if (row.isReserved(Reserved.PROGRAM, 1) || row.isReserved(Reserved.FUNCTION, 1)) {
                requireThat(mayEndOrContain());
                endUnit();
            } else {
                requireThat(units.state() >= NAMED);
                row.advance();
                row.refuse(FAULT_BAD_WORD);
            }
        }

        private void endDeclaratives() {
            row.advance();
            row.require(Reserved.DECLARATIVES);
            row.requireKind(PERIOD);
            section = NONE;
            paragraph = NONE;
            units.setState(BEHIND_DECLARATIVES);
        }

        private void endUnit() {
            row.advance();
            row.require(units.kind() == Node.FUNCTION ? Reserved.FUNCTION : Reserved.PROGRAM);
            int place = row.place();
            int name = row.requireKind(NAME);
            row.requireKind(PERIOD);
            if (name != units.name()) {
                row.note(FAULT_OTHER_NAME, place);
            }
            units.close();
        }

        private void sectionOrParagraph() {
            boolean isSection = row.isReserved(Reserved.SECTION, 1);
            requireState(IN_PROCEDURE, IN_BODY);
            requireThat(isSection || mayHoldSentences());
            int place = row.place();
            int made = tree.make(isSection ? Node.SECTION : Node.PARAGRAPH, row.requireKind(NAME), place);
            row.skip(Reserved.SECTION);
            row.requireKind(PERIOD);
            if (isSection) {
                tree.append(units.state() == IN_DECLARATIVES ? declaratives : openDivision, made);
                section = made;
                paragraph = NONE;
            } else {
                tree.append(section == NONE ? openDivision : section, made);
                paragraph = made;
            }
            enterBody();
        }

        private void sentence() {
            requireState(IN_PROCEDURE, IN_BODY);
            requireThat(mayHoldSentences());
            int made = statements.list(Node.SENTENCE, 0);
            row.requireKind(PERIOD);
            int inSection = section == NONE ? openDivision : section;
            tree.append(paragraph == NONE ? inSection : paragraph, made);
            enterBody();
        }

        private boolean mayHoldSentences() {
            return units.state() != IN_DECLARATIVES || section != NONE;
        }

        private void enterBody() {
            if (units.state() != IN_DECLARATIVES) {
                units.setState(IN_BODY);
            }
        }
    }
}
