import java.util.Arrays;
import java.util.NoSuchElementException;

/**
 * Proofs of small programs, backward from what shall hold behind them.
 *
 * <p>The program and what stands in it come from a text (Parser fills a Program and a Version). After each change
 * three tables are made anew: the sets of states of all conditions (Sets), where each statement ends (Runs), and the
 * needs and duties (Duties). Almost all that the public methods answer is read from these tables.
 */
public final class BackwardProofs {
    /** There is none. */
    public static final int NONE = -1;

    private static final int STATES = 64;
    private static final int STATEMENTS = 24;
    private static final int MOST_NODES = 30;
    private static final int MOST_WRITTEN_NODES = 200;
    private static final int INPUT_BYTES = 800;
    private static final int FED_BYTES = 20;
    /** No word of a node has more than five letters, and a space stands between two. */
    private static final int OUTPUT_BYTES = 6 * MOST_WRITTEN_NODES;
    private static final int CHANGES = 10;
    private static final int SLOTS = 2;
    /** How many F a FILLING, 13 * V + F, knows. */
    private static final int FORMS = 13;
    private static final int FILLINGS = 39;
    private static final int FIRST_PRICE = 10;
    private static final int GREATEST_PRICE = 99;
    private static final int DUTIES_OF_A_LOOP = 3;
    private static final int DUTIES = 1 + DUTIES_OF_A_LOOP * STATEMENTS;

    private static final int SET = 0;
    private static final int IF = 1;
    private static final int WHILE = 2;
    private static final int HOLE = 3;

    private static final int SYNTAX = 1;
    private static final int RANGE = 2;
    private static final int MANY = 3;
    private static final int LARGE = 4;

    private static final String FIRST_PROOF =
            "proof lt a 3 and eq a 0 eq b 2 set b 2 while lt 0 a keep eq b 2 less a set a minus a 1 end hole";

    private final byte[] input;
    private int inputLength;
    private final byte[] output;
    private int outputLength;
    private int errorCode;
    private int errorPosition;

    /** Stands wherever a statement has no expression or condition, so that no reference is null. */
    private final Formula none;
    private final Parser parser;
    private final History history;
    private final Sets sets;
    private final Runs runs;
    private final Duties duties;
    private final Sheet sheet;
    private Program program;
    private Version version;

    public BackwardProofs() {
        input = new byte[INPUT_BYTES];
        output = new byte[OUTPUT_BYTES];
        none = new Formula(input, 0);
        parser = new Parser(input);
        history = new History(none);
        program = new Program(none);
        version = new Version(none);
        sets = new Sets(none);
        runs = new Runs(sets);
        duties = new Duties(sets, runs);
        sheet = new Sheet(sets);
        inputLength = Words.spell(FIRST_PROOF, input, 0);
        parser.begin(inputLength);
        parser.parseDescription(program, version);
        inputLength = 0;
        errorPosition = NONE;
        duties.look(program, version);
    }

    // ---- input

    public int feed(int a, int b, int c, int d, int e) throws IllegalStateException {
        if (inputLength + FED_BYTES > INPUT_BYTES) {
            throw new IllegalStateException();
        }
        appendInput(a);
        appendInput(b);
        appendInput(c);
        appendInput(d);
        appendInput(e);
        return inputLength;
    }

    public int load(int length) throws IllegalArgumentException, IllegalStateException {
        requireLength(length);
        Program newProgram = new Program(none);
        Version newVersion = new Version(none);
        parser.begin(length);
        parser.parseDescription(newProgram, newVersion);
        closeInput();
        program = newProgram;
        version = newVersion;
        history.forget();
        duties.look(program, version);
        return program.count;
    }

    public int errorCode() {
        return errorCode;
    }

    public int errorPosition() {
        return errorPosition;
    }

    // ---- what there is

    public int value(int what) throws IllegalArgumentException {
        switch (what) {
            case 0:
                return program.count;
            case 1:
                return program.loops;
            case 2:
                return program.holes;
            case 3:
                return version.filledHoles(program.holes);
            case 4:
                return duties.count();
            case 5:
                return duties.failed();
            case 6:
                return duties.failed() == 0 ? 1 : 0;
            case 7:
                return history.count;
            default:
                throw new IllegalArgumentException();
        }
    }

    public int statement(int statement, int what) throws NoSuchElementException, IllegalArgumentException {
        requireStatement(statement);
        switch (what) {
            case 0:
                return program.kindOf(statement);
            case 1:
                return sets.targetOf(statement);
            case 2:
                return program.depthOf(statement);
            case 3:
                return program.inRow(program.firstOf(statement));
            case 4:
                return program.inRow(program.secondOf(statement));
            case 5:
                return version.priceOf(statement);
            case 6:
                return nodesOf(statement);
            case 7:
                return program.numberOf(statement);
            default:
                throw new IllegalArgumentException();
        }
    }

    public long before() {
        return sets.before;
    }

    public long after() {
        return sets.after;
    }

    public long loopSet(int loop, int what) throws NoSuchElementException, IllegalArgumentException {
        requireLoop(loop);
        if (what == 0) {
            return sets.conditionOf(program.loopAt(loop));
        }
        if (what == 1) {
            return sets.keepOf(loop);
        }
        throw new IllegalArgumentException();
    }

    public int less(int loop, int state) throws NoSuchElementException, IllegalArgumentException {
        requireLoop(loop);
        requireState(state);
        return sets.lessOf(loop, state);
    }

    // ---- needs and duties

    public long need(int statement) throws NoSuchElementException {
        requireStatement(statement);
        return duties.ahead(statement);
    }

    public long needAhead() {
        return duties.ahead(program.start());
    }

    public int duty(int duty, int what) throws NoSuchElementException, IllegalArgumentException {
        requireDuty(duty);
        switch (what) {
            case 0:
                return duty == 0 ? 0 : 1 + (duty - 1) % DUTIES_OF_A_LOOP;
            case 1:
                return duty == 0 ? NONE : program.loopAt((duty - 1) / DUTIES_OF_A_LOOP);
            case 2:
                return Long.bitCount(duties.failingStates(duty));
            case 3:
                return Sets.least(duties.failingStates(duty));
            default:
                throw new IllegalArgumentException();
        }
    }

    public long failing(int duty) throws NoSuchElementException {
        requireDuty(duty);
        return duties.failingStates(duty);
    }

    public int trouble() {
        for (int duty = 0; duty < DUTIES; duty++) {
            if (duties.failingStates(duty) != 0) {
                return duty;
            }
        }
        return NONE;
    }

    // ---- runs

    public int run(int state) throws IllegalArgumentException {
        requireState(state);
        return runs.endOfRow(program.start(), state);
    }

    public int steps(int state) throws IllegalArgumentException {
        requireState(state);
        return runs.stepsFrom(state);
    }

    public float cost(int state) throws IllegalArgumentException {
        requireState(state);
        return runs.costFrom(state);
    }

    public int costBits(int state) throws IllegalArgumentException {
        requireState(state);
        return Runs.bitsOf(runs.costFrom(state));
    }

    public long met(int statement) throws NoSuchElementException {
        requireStatement(statement);
        return runs.metAt(statement);
    }

    public int rounds(int loop) throws NoSuchElementException {
        requireLoop(loop);
        return runs.mostRounds(program.loopAt(loop));
    }

    public long wrong() {
        return runs.wrongStates();
    }

    public int dearest() {
        return runs.dearestState();
    }

    public double meanCost() {
        return runs.mean();
    }

    public long meanBits() {
        return Runs.bitsOf(runs.mean());
    }

    public float share() {
        return (float) Long.bitCount(duties.ahead(program.start())) / 64.0f;
    }

    // ---- what would be: nothing changes

    public int proves(int hole) throws NoSuchElementException {
        requireHole(hole);
        return leastFilling(hole, true);
    }

    public int rights(int hole) throws NoSuchElementException {
        requireHole(hole);
        return leastFilling(hole, false);
    }

    public long safe(int loop) throws NoSuchElementException {
        requireLoop(loop);
        return duties.safeStates(loop);
    }

    public long unsafe(int loop) throws NoSuchElementException {
        requireLoop(loop);
        return sets.keepOf(loop) & ~duties.safeStates(loop);
    }

    // ---- writing

    public int writeNeed(int statement) throws NoSuchElementException {
        requireStatement(statement);
        sheet.write(program, version);
        int size = sheet.sizeOf(statement);
        if (size == NONE) {
            return NONE;
        }
        writeWords(sheet.rowOf(statement), size);
        return outputLength;
    }

    public int outputByte(int index) throws IndexOutOfBoundsException {
        if (index < 0 || index >= outputLength || index >= OUTPUT_BYTES) {
            throw new IndexOutOfBoundsException();
        }
        return output[index];
    }

    public int needNodes(int statement) throws NoSuchElementException {
        requireStatement(statement);
        sheet.write(program, version);
        return sheet.sizeOf(statement);
    }

    public int gap(int statement) throws NoSuchElementException {
        requireStatement(statement);
        sheet.write(program, version);
        int size = sheet.sizeOf(statement);
        if (size == NONE) {
            return 0;
        }
        sets.evaluate(sheet.rowOf(statement), size);
        return Long.bitCount(sets.holding() ^ duties.ahead(statement));
    }

    // ---- changes

    public int setBefore(int length) throws IllegalArgumentException, IllegalStateException {
        requireLength(length);
        Formula parsed = parseAlone(length, true);
        history.remember(version);
        version.before = parsed;
        duties.look(program, version);
        return Long.bitCount(sets.before);
    }

    public int setAfter(int length) throws IllegalArgumentException, IllegalStateException {
        requireLength(length);
        Formula parsed = parseAlone(length, true);
        history.remember(version);
        version.after = parsed;
        duties.look(program, version);
        return Long.bitCount(sets.after);
    }

    public int setKeep(int loop, int length)
            throws NoSuchElementException, IllegalArgumentException, IllegalStateException {
        requireLoop(loop);
        requireLength(length);
        Formula parsed = parseAlone(length, true);
        history.remember(version);
        version.putKeep(loop, parsed);
        duties.look(program, version);
        return Long.bitCount(sets.keepOf(loop));
    }

    public int setLess(int loop, int length)
            throws NoSuchElementException, IllegalArgumentException, IllegalStateException {
        requireLoop(loop);
        requireLength(length);
        Formula parsed = parseAlone(length, false);
        history.remember(version);
        version.putLess(loop, parsed);
        duties.look(program, version);
        return sets.greatestLess(loop);
    }

    public int fill(int hole, int filling) throws NoSuchElementException, IllegalArgumentException {
        requireHole(hole);
        if (filling < NONE || filling >= FILLINGS) {
            throw new IllegalArgumentException();
        }
        history.remember(version);
        version.putFilling(hole, filling);
        duties.look(program, version);
        return duties.failed();
    }

    public int setPrice(int statement, int price) throws NoSuchElementException, IllegalArgumentException {
        requireStatement(statement);
        if (price < 0 || price > GREATEST_PRICE) {
            throw new IllegalArgumentException();
        }
        history.remember(version);
        int former = version.priceOf(statement);
        version.putPrice(statement, price);
        return former;
    }

    public int restore(int slot) throws IllegalArgumentException, IllegalStateException {
        requireSlot(slot);
        if (!history.holds(slot)) {
            throw new IllegalStateException();
        }
        history.remember(version);
        history.bringBack(slot, version);
        duties.look(program, version);
        return duties.failed();
    }

    // ---- undo, save

    public int undo() throws IllegalStateException {
        if (history.count == 0) {
            throw new IllegalStateException();
        }
        history.takeBack(version);
        duties.look(program, version);
        return history.count;
    }

    public int save(int slot) throws IllegalArgumentException {
        requireSlot(slot);
        history.keepIn(slot, version);
        return history.heldSlots();
    }

    // ---- what several of the methods above need

    private void appendInput(int four) {
        for (int shift = 24; shift >= 0; shift -= 8) {
            if (inputLength >= 0 && inputLength < INPUT_BYTES) {
                input[inputLength] = (byte) (four >>> shift);
                inputLength++;
            }
        }
    }

    private Formula parseAlone(int length, boolean asCondition) throws IllegalStateException {
        parser.begin(length);
        Formula parsed = parser.parseAlone(asCondition);
        closeInput();
        return parsed;
    }

    /** A text that was parsed is used up, whatever was found in it. */
    private void closeInput() throws IllegalStateException {
        inputLength = 0;
        errorCode = parser.errorCode;
        errorPosition = parser.errorPosition;
        if (errorCode != 0) {
            throw new IllegalStateException();
        }
    }

    private int nodesOf(int statement) {
        int nodes = program.partOf(statement).size();
        if (program.kindOf(statement) == WHILE) {
            int loop = program.numberOf(statement);
            nodes += version.keepOf(loop).size() + version.lessOf(loop).size();
        }
        return nodes;
    }

    /** Tries the fillings in place, as a real filling would stand there, and puts the old one back. */
    private int leastFilling(int hole, boolean shallProve) {
        int former = version.fillingOf(hole);
        int found = NONE;
        for (int filling = 0; filling < FILLINGS && found == NONE; filling++) {
            version.putFilling(hole, filling);
            duties.look(program, version);
            if (shallProve ? duties.failed() == 0 : runs.wrongStates() == 0) {
                found = filling;
            }
        }
        version.putFilling(hole, former);
        duties.look(program, version);
        return found;
    }

    private void writeWords(byte[] nodes, int size) {
        outputLength = 0;
        for (int i = 0; i < size && i < nodes.length; i++) {
            if (i > 0) {
                outputLength = Words.spell(" ", output, outputLength);
            }
            outputLength = Words.spell(Words.text(nodes[i]), output, outputLength);
        }
    }

    private void requireLength(int length) throws IllegalArgumentException {
        if (length < 0 || length > inputLength) {
            throw new IllegalArgumentException();
        }
    }

    private void requireState(int state) throws IllegalArgumentException {
        if (state < 0 || state >= STATES) {
            throw new IllegalArgumentException();
        }
    }

    private void requireSlot(int slot) throws IllegalArgumentException {
        if (slot < 0 || slot >= SLOTS) {
            throw new IllegalArgumentException();
        }
    }

    private void requireStatement(int statement) throws NoSuchElementException {
        if (statement < 0 || statement >= program.count) {
            throw new NoSuchElementException();
        }
    }

    private void requireLoop(int loop) throws NoSuchElementException {
        if (loop < 0 || loop >= program.loops) {
            throw new NoSuchElementException();
        }
    }

    private void requireHole(int hole) throws NoSuchElementException {
        if (hole < 0 || hole >= program.holes) {
            throw new NoSuchElementException();
        }
    }

    private void requireDuty(int duty) throws NoSuchElementException {
        if (duty < 0 || duty >= duties.count()) {
            throw new NoSuchElementException();
        }
    }

    /** The words of the texts by their numbers. Those of nodes come first: a node is told by its word's number. */
    private static final class Words {
        static final int A = 4;
        static final int C = 6;
        static final int PLUS = 7;
        static final int MINUS = 8;
        static final int TIMES = 9;
        static final int TRUE = 10;
        static final int FALSE = 11;
        static final int EQ = 12;
        static final int LT = 13;
        static final int NOT = 14;
        static final int AND = 15;
        static final int OR = 16;
        /** The first words of the statements, in the order of the kinds. */
        static final int FIRST_STATEMENT = 17;
        static final int LAST_STATEMENT = 20;
        static final int ELSE = 21;
        static final int END = 22;
        static final int KEEP = 23;
        static final int LESS = 24;
        static final int PROOF = 25;
        static final int UNKNOWN = 26;

        static String text(int word) {
            switch (word) {
                case 0: return "0";
                case 1: return "1";
                case 2: return "2";
                case 3: return "3";
                case A: return "a";
                case 5: return "b";
                case C: return "c";
                case PLUS: return "plus";
                case MINUS: return "minus";
                case TIMES: return "times";
                case TRUE: return "true";
                case FALSE: return "false";
                case EQ: return "eq";
                case LT: return "lt";
                case NOT: return "not";
                case AND: return "and";
                case OR: return "or";
                case FIRST_STATEMENT: return "set";
                case 18: return "if";
                case 19: return "while";
                case LAST_STATEMENT: return "hole";
                case ELSE: return "else";
                case END: return "end";
                case KEEP: return "keep";
                case LESS: return "less";
                case PROOF: return "proof";
                default: return "";
            }
        }

        static int find(byte[] bytes, int from, int to) {
            for (int word = A; word < UNKNOWN; word++) {
                if (stands(text(word), bytes, from, to)) {
                    return word;
                }
            }
            return UNKNOWN;
        }

        private static boolean stands(String text, byte[] bytes, int from, int to) {
            if (from < 0 || to > bytes.length || to - from != text.length()) {
                return false;
            }
            for (int i = 0; i < text.length(); i++) {
                if (bytes[from + i] != text.charAt(i)) {
                    return false;
                }
            }
            return true;
        }

        /** Puts the text into the row from this index on; answers the index behind it. */
        static int spell(String text, byte[] row, int from) {
            int to = Math.max(from, 0);
            for (int i = 0; i < text.length() && to < row.length; i++) {
                row[to] = (byte) text.charAt(i);
                to++;
            }
            return to;
        }

        static boolean isVariable(int word) {
            return word >= A && word <= C;
        }

        static boolean isOfExpressions(int word) {
            return word >= 0 && word <= TIMES;
        }

        static boolean isOfConditions(int word) {
            return word >= TRUE && word <= OR;
        }

        static boolean isStatement(int word) {
            return word >= FIRST_STATEMENT && word <= LAST_STATEMENT;
        }

        static int expressionsBehind(int node) {
            return node >= PLUS && node <= TIMES || node == EQ || node == LT ? 2 : 0;
        }

        static int conditionsBehind(int node) {
            return node == AND || node == OR ? 2 : node == NOT ? 1 : 0;
        }
    }

    /** An expression or condition: its nodes in the order of the text. It never changes. */
    private static final class Formula {
        final byte[] nodes;

        Formula(byte[] source, int size) {
            nodes = Arrays.copyOf(source, Math.max(size, 0));
        }

        int size() {
            return nodes.length;
        }
    }

    /** The statements, as a load left them: what no change can change. */
    private static final class Program {
        int count;
        int loops;
        int holes;
        private final int[] kind = new int[STATEMENTS];
        private final int[] variable = new int[STATEMENTS];
        private final int[] parent = new int[STATEMENTS];
        private final int[] number = new int[STATEMENTS];
        /** The next statement of the same row. */
        private final int[] next = new int[STATEMENTS];
        /** The first statements of the rows in a statement. */
        private final int[] first = new int[STATEMENTS];
        private final int[] second = new int[STATEMENTS];
        /** The statement that a run comes to behind this one, out of rows and back to loops; NONE at the end. */
        private final int[] then = new int[STATEMENTS];
        private final int[] loopAt = new int[STATEMENTS];
        /** The expression of a set, the condition of an if or a while. */
        private final Formula[] part = new Formula[STATEMENTS];
        private final Formula none;

        Program(Formula none) {
            this.none = none;
            for (int i = 0; i < STATEMENTS; i++) {
                part[i] = none;
            }
        }

        boolean has(int statement) {
            return statement >= 0 && statement < count && statement < STATEMENTS;
        }

        int start() {
            return count > 0 ? 0 : NONE;
        }

        int kindOf(int statement) {
            return has(statement) ? kind[statement] : NONE;
        }

        int variableOf(int statement) {
            return has(statement) ? variable[statement] : NONE;
        }

        int parentOf(int statement) {
            return has(statement) ? parent[statement] : NONE;
        }

        int numberOf(int statement) {
            return has(statement) ? number[statement] : NONE;
        }

        int nextOf(int statement) {
            return has(statement) ? next[statement] : NONE;
        }

        int firstOf(int statement) {
            return has(statement) ? first[statement] : NONE;
        }

        int secondOf(int statement) {
            return has(statement) ? second[statement] : NONE;
        }

        int thenOf(int statement) {
            return has(statement) ? then[statement] : NONE;
        }

        Formula partOf(int statement) {
            return has(statement) ? part[statement] : none;
        }

        int loopAt(int loop) {
            return loop >= 0 && loop < loops && loop < STATEMENTS ? loopAt[loop] : NONE;
        }

        int depthOf(int statement) {
            int depth = 0;
            int around = parentOf(statement);
            for (int i = 0; i < STATEMENTS && around != NONE; i++) {
                depth++;
                around = parentOf(around);
            }
            return depth;
        }

        int inRow(int head) {
            int length = 0;
            int at = head;
            for (int i = 0; i < STATEMENTS && at != NONE; i++) {
                length++;
                at = nextOf(at);
            }
            return length;
        }

        /** Where a run goes on if the condition of an if or a while holds, or if it does not. */
        int entry(int statement, boolean holds) {
            if (kindOf(statement) == WHILE) {
                if (!holds) {
                    return thenOf(statement);
                }
                return firstOf(statement) != NONE ? firstOf(statement) : statement;
            }
            int head = holds ? firstOf(statement) : secondOf(statement);
            return head != NONE ? head : thenOf(statement);
        }

        /** Appends a statement to a row; the caller has looked that there is room. */
        int add(int newKind, int around, boolean inSecond) {
            if (count < 0 || count >= STATEMENTS) {
                return NONE;
            }
            int statement = count;
            int last = lastOfRow(around == NONE ? start() : inSecond ? secondOf(around) : firstOf(around));
            if (has(last)) {
                next[last] = statement;
            } else if (has(around) && inSecond) {
                second[around] = statement;
            } else if (has(around)) {
                first[around] = statement;
            }
            kind[statement] = newKind;
            variable[statement] = NONE;
            parent[statement] = around;
            number[statement] = takeNumber(newKind, statement);
            next[statement] = NONE;
            first[statement] = NONE;
            second[statement] = NONE;
            then[statement] = NONE;
            count++;
            return statement;
        }

        private int lastOfRow(int head) {
            int last = NONE;
            int at = head;
            for (int i = 0; i < STATEMENTS && at >= 0 && at < STATEMENTS; i++) {
                last = at;
                at = next[at];
            }
            return last;
        }

        private int takeNumber(int newKind, int statement) {
            if (newKind == WHILE && loops >= 0 && loops < STATEMENTS) {
                loopAt[loops] = statement;
                loops++;
                return loops - 1;
            }
            if (newKind == HOLE) {
                holes++;
                return holes - 1;
            }
            return NONE;
        }

        void putVariable(int statement, int newVariable) {
            if (has(statement)) {
                variable[statement] = newVariable;
            }
        }

        void putPart(int statement, Formula formula) {
            if (has(statement)) {
                part[statement] = formula;
            }
        }

        /** Statements around others have the lower numbers, so that theirs stands already when it is asked. */
        void connect() {
            for (int s = 0; s < count && s < STATEMENTS; s++) {
                int around = parentOf(s);
                if (next[s] != NONE) {
                    then[s] = next[s];
                } else if (kindOf(around) == WHILE) {
                    then[s] = around;
                } else {
                    then[s] = thenOf(around);
                }
            }
        }
    }

    /** What changes can change and undo brings back. */
    private static final class Version {
        Formula before;
        Formula after;
        private final Formula none;
        private final Formula[] keep = new Formula[STATEMENTS];
        private final Formula[] less = new Formula[STATEMENTS];
        private final int[] filling = new int[STATEMENTS];
        private final int[] price = new int[STATEMENTS];

        Version(Formula none) {
            this.none = none;
            before = none;
            after = none;
            for (int i = 0; i < STATEMENTS; i++) {
                keep[i] = none;
                less[i] = none;
                filling[i] = NONE;
                price[i] = FIRST_PRICE;
            }
        }

        void copy(Version other) {
            before = other.before;
            after = other.after;
            for (int i = 0; i < STATEMENTS; i++) {
                keep[i] = other.keep[i];
                less[i] = other.less[i];
                filling[i] = other.filling[i];
                price[i] = other.price[i];
            }
        }

        private static boolean fits(int index) {
            return index >= 0 && index < STATEMENTS;
        }

        Formula keepOf(int loop) {
            return fits(loop) ? keep[loop] : none;
        }

        Formula lessOf(int loop) {
            return fits(loop) ? less[loop] : none;
        }

        int fillingOf(int hole) {
            return fits(hole) ? filling[hole] : NONE;
        }

        int priceOf(int statement) {
            return fits(statement) ? price[statement] : 0;
        }

        void putKeep(int loop, Formula formula) {
            if (fits(loop)) {
                keep[loop] = formula;
            }
        }

        void putLess(int loop, Formula formula) {
            if (fits(loop)) {
                less[loop] = formula;
            }
        }

        void putFilling(int hole, int newFilling) {
            if (fits(hole)) {
                filling[hole] = newFilling;
            }
        }

        void putPrice(int statement, int newPrice) {
            if (fits(statement)) {
                price[statement] = newPrice;
            }
        }

        int filledHoles(int holes) {
            int filled = 0;
            for (int hole = 0; hole < holes && hole < STATEMENTS; hole++) {
                if (filling[hole] != NONE) {
                    filled++;
                }
            }
            return filled;
        }
    }

    /** The versions before the latest changes, and those in the slots. */
    private static final class History {
        int count;
        private int newest;
        private final Version[] past = new Version[CHANGES];
        private final Version[] slots = new Version[SLOTS];
        private final boolean[] held = new boolean[SLOTS];

        History(Formula none) {
            for (int i = 0; i < CHANGES; i++) {
                past[i] = new Version(none);
            }
            for (int i = 0; i < SLOTS; i++) {
                slots[i] = new Version(none);
            }
        }

        void forget() {
            count = 0;
            for (int i = 0; i < SLOTS; i++) {
                held[i] = false;
            }
        }

        void remember(Version now) {
            newest = Math.floorMod(newest + 1, CHANGES);
            past[newest].copy(now);
            count = Math.min(count + 1, CHANGES);
        }

        void takeBack(Version now) {
            now.copy(past[Math.floorMod(newest, CHANGES)]);
            newest = Math.floorMod(newest - 1, CHANGES);
            count--;
        }

        boolean holds(int slot) {
            return slot >= 0 && slot < SLOTS && held[slot];
        }

        void keepIn(int slot, Version now) {
            if (slot >= 0 && slot < SLOTS) {
                slots[slot].copy(now);
                held[slot] = true;
            }
        }

        void bringBack(int slot, Version now) {
            if (holds(slot)) {
                now.copy(slots[slot]);
            }
        }

        int heldSlots() {
            int quantity = 0;
            for (int i = 0; i < SLOTS; i++) {
                if (held[i]) {
                    quantity++;
                }
            }
            return quantity;
        }
    }

    /** The tokens of a text, up to the first that no text may have. */
    private static final class Scanner {
        static final int AT_END = -2;
        static final int NOT_ALLOWED = -3;
        static final int TOO_GREAT = -4;
        private static final int MOST_DIGITS = 3;
        /** Two tokens have a blank between them, or the second one is the last; the end is one more. */
        private static final int MOST_TOKENS = INPUT_BYTES / 2 + 2;

        /** The word's number (a number 0 to 3 is one, too), or one of the three above. */
        int token;
        /** The position of the token's first byte. */
        int start;
        private final byte[] text;
        private int length;
        private int end;
        private final int[] tokens = new int[MOST_TOKENS];
        private final int[] starts = new int[MOST_TOKENS];
        private int count;
        private int taken;

        Scanner(byte[] text) {
            this.text = text;
        }

        void begin(int newLength) {
            length = Math.min(newLength, text.length);
            token = NONE;
            end = 0;
            count = 0;
            for (int i = 0; i < MOST_TOKENS && token != AT_END && token != NOT_ALLOWED; i++) {
                scan();
                tokens[i] = token;
                starts[i] = start;
                count++;
            }
            taken = 0;
            advance();
        }

        /** The last token, the end or one that is refused, is never gone beyond. */
        void advance() {
            if (taken >= 0 && taken < count && taken < MOST_TOKENS) {
                token = tokens[taken];
                start = starts[taken];
                taken++;
            }
        }

        private void scan() {
            int former = end;
            start = behindBlanks(former);
            if (start >= length) {
                token = AT_END;
            } else if (start == former && count > 0) {
                token = NOT_ALLOWED;
            } else if (isLetter(byteAt(start))) {
                end = behindLetters(start);
                token = Words.find(text, start, end);
            } else if (isDigit(byteAt(start))) {
                end = behindDigits(start);
                token = numberToken();
            } else {
                token = NOT_ALLOWED;
            }
        }

        private int numberToken() {
            if (end - start > MOST_DIGITS) {
                return NOT_ALLOWED;
            }
            int number = 0;
            for (int i = start; i < end; i++) {
                number = 10 * number + byteAt(i) - '0';
            }
            return number > 3 ? TOO_GREAT : number;
        }

        private int behindBlanks(int from) {
            int at = from;
            for (int i = 0; i < INPUT_BYTES && (byteAt(at) == ' ' || byteAt(at) == '\n'); i++) {
                at++;
            }
            return at;
        }

        private int behindLetters(int from) {
            int at = from;
            for (int i = 0; i < INPUT_BYTES && isLetter(byteAt(at)); i++) {
                at++;
            }
            return at;
        }

        private int behindDigits(int from) {
            int at = from;
            for (int i = 0; i < INPUT_BYTES && isDigit(byteAt(at)); i++) {
                at++;
            }
            return at;
        }

        private static boolean isLetter(int sign) {
            return sign >= 'a' && sign <= 'z';
        }

        private static boolean isDigit(int sign) {
            return sign >= '0' && sign <= '9';
        }

        private int byteAt(int index) {
            return index >= 0 && index < length && index < text.length ? text[index] : NONE;
        }
    }

    /** Reads a text from left to right up to its first error. */
    private static final class Parser {
        int errorCode;
        int errorPosition;
        private final Scanner scanner;
        private final byte[] nodes = new byte[MOST_NODES];
        private Program program;
        private Version version;
        /** The innermost statement whose end has not come, and whether its second row has begun. */
        private int open;
        private boolean inSecond;

        Parser(byte[] text) {
            scanner = new Scanner(text);
        }

        void begin(int length) {
            errorCode = 0;
            errorPosition = NONE;
            scanner.begin(length);
        }

        Formula parseAlone(boolean asCondition) {
            Formula parsed = parseFormula(asCondition);
            if (scanner.token != Scanner.AT_END) {
                refuse(SYNTAX);
            }
            return parsed;
        }

        void parseDescription(Program newProgram, Version newVersion) {
            program = newProgram;
            version = newVersion;
            open = NONE;
            inSecond = false;
            take(Words.PROOF);
            version.before = parseFormula(true);
            version.after = parseFormula(true);
            for (int i = 0; i < INPUT_BYTES && errorCode == 0 && scanner.token != Scanner.AT_END; i++) {
                parseRowWord();
            }
            if (open != NONE) {
                refuse(SYNTAX);
            }
            program.connect();
        }

        /** Only the first error is told: no later one has a lesser position. */
        private void refuse(int code) {
            if (errorCode == 0) {
                errorCode = code;
                errorPosition = scanner.start;
            }
        }

        private void take(int word) {
            if (errorCode != 0) {
                return;
            }
            if (scanner.token == word) {
                scanner.advance();
            } else {
                refuse(SYNTAX);
            }
        }

        private void parseRowWord() {
            int word = scanner.token;
            boolean openIf = program.kindOf(open) == IF;
            if (Words.isStatement(word)) {
                parseStatement(word - Words.FIRST_STATEMENT);
            } else if (word == Words.ELSE && openIf && !inSecond) {
                inSecond = true;
                scanner.advance();
            } else if (word == Words.END && open != NONE && (!openIf || inSecond)) {
                closeStatement();
                scanner.advance();
            } else {
                refuse(SYNTAX);
            }
        }

        /** The row that a statement stands in is still being read: it is the second one if that has begun. */
        private void closeStatement() {
            int around = program.parentOf(open);
            int head = program.secondOf(around);
            inSecond = false;
            for (int i = 0, at = head; i < STATEMENTS && at != NONE; i++) {
                if (at == open) {
                    inSecond = true;
                }
                at = program.nextOf(at);
            }
            open = around;
        }

        private void parseStatement(int kind) {
            if (program.count >= STATEMENTS) {
                refuse(MANY);
                return;
            }
            int statement = program.add(kind, open, inSecond);
            scanner.advance();
            if (kind == HOLE) {
                return;
            }
            if (kind == SET) {
                parseVariable(statement);
                program.putPart(statement, parseFormula(false));
                return;
            }
            program.putPart(statement, parseFormula(true));
            if (kind == WHILE) {
                take(Words.KEEP);
                version.putKeep(program.numberOf(statement), parseFormula(true));
                take(Words.LESS);
                version.putLess(program.numberOf(statement), parseFormula(false));
            }
            open = statement;
            inSecond = false;
        }

        private void parseVariable(int statement) {
            if (Words.isVariable(scanner.token)) {
                program.putVariable(statement, scanner.token - Words.A);
                scanner.advance();
            } else {
                refuse(SYNTAX);
            }
        }

        /**
         * Counts what is still to come instead of calling itself: the expressions that are due always stand before
         * the conditions that are due.
         */
        private Formula parseFormula(boolean asCondition) {
            int conditions = asCondition ? 1 : 0;
            int expressions = asCondition ? 0 : 1;
            int size = 0;
            for (int i = 0; i <= MOST_NODES && errorCode == 0 && conditions + expressions > 0; i++) {
                boolean expressionIsDue = expressions > 0;
                if (checkNode(expressionIsDue, size) && size < MOST_NODES) {
                    int node = scanner.token;
                    nodes[size] = (byte) node;
                    size++;
                    expressions += Words.expressionsBehind(node) - (expressionIsDue ? 1 : 0);
                    conditions += Words.conditionsBehind(node) - (expressionIsDue ? 0 : 1);
                    scanner.advance();
                }
            }
            return new Formula(nodes, size);
        }

        private boolean checkNode(boolean expressionIsDue, int size) {
            int token = scanner.token;
            if (expressionIsDue && token == Scanner.TOO_GREAT) {
                refuse(RANGE);
            } else if (expressionIsDue ? !Words.isOfExpressions(token) : !Words.isOfConditions(token)) {
                refuse(SYNTAX);
            } else if (size >= MOST_NODES) {
                refuse(LARGE);
            }
            return errorCode == 0;
        }
    }

    /** The sets of states in which conditions hold, and the values of expressions as two sets, one for each bit. */
    private static final class Sets {
        private static final long[] VARIABLE_LOW = {0xAAAAAAAAAAAAAAAAL, 0xF0F0F0F0F0F0F0F0L, 0xFFFF0000FFFF0000L};
        private static final long[] VARIABLE_HIGH = {0xCCCCCCCCCCCCCCCCL, 0xFF00FF00FF00FF00L, 0xFFFFFFFF00000000L};

        long before;
        long after;
        private final long[] keep = new long[STATEMENTS];
        private final long[] lessLow = new long[STATEMENTS];
        private final long[] lessHigh = new long[STATEMENTS];
        /** The value that a set, or a filled hole, gives to its variable; the low bit of a condition, if it holds. */
        private final long[] valueLow = new long[STATEMENTS];
        private final long[] valueHigh = new long[STATEMENTS];
        private final int[] target = new int[STATEMENTS];
        private final Formula[] formula = new Formula[STATEMENTS];
        private final Formula none;
        private final Formula[] formulaOfForm = new Formula[FORMS];
        private final long[] low = new long[MOST_WRITTEN_NODES];
        private final long[] high = new long[MOST_WRITTEN_NODES];
        private int depth;
        private Program program;
        private Version version;

        Sets(Formula none) {
            this.none = none;
            for (int i = 0; i < STATEMENTS; i++) {
                formula[i] = none;
            }
            byte[] nodes = new byte[3];
            for (int form = 0; form < FORMS; form++) {
                formulaOfForm[form] = new Formula(nodes, nodesOfForm(form, nodes));
            }
        }

        private static int nodesOfForm(int form, byte[] nodes) {
            if (nodes.length < 3) {
                return 0;
            }
            if (form < Words.PLUS) {
                // numbers and variables have the numbers of their nodes
                nodes[0] = (byte) form;
                return 1;
            }
            boolean plus = form < 10;
            nodes[0] = (byte) (plus ? Words.PLUS : Words.MINUS);
            nodes[1] = (byte) (Words.A + form - (plus ? 7 : 10));
            nodes[2] = 1;
            return 3;
        }

        void look(Program newProgram, Version newVersion) {
            program = newProgram;
            version = newVersion;
            evaluate(version.before.nodes, version.before.size());
            before = holding();
            evaluate(version.after.nodes, version.after.size());
            after = holding();
            for (int s = 0; s < program.count; s++) {
                lookAtStatement(s);
            }
            for (int loop = 0; loop < program.loops; loop++) {
                lookAtLoop(loop);
            }
        }

        private void lookAtStatement(int statement) {
            if (statement < 0 || statement >= STATEMENTS) {
                return;
            }
            boolean isHole = program.kindOf(statement) == HOLE;
            int filling = isHole ? version.fillingOf(program.numberOf(statement)) : NONE;
            target[statement] = filling >= 0 ? filling / FORMS : program.variableOf(statement);
            formula[statement] = filling >= 0 ? formulaOfForm[filling % FORMS] : program.partOf(statement);
            evaluate(formula[statement].nodes, formula[statement].size());
            valueLow[statement] = low[0];
            valueHigh[statement] = high[0];
        }

        private void lookAtLoop(int loop) {
            if (loop < 0 || loop >= STATEMENTS) {
                return;
            }
            Formula kept = version.keepOf(loop);
            evaluate(kept.nodes, kept.size());
            keep[loop] = holding();
            Formula lessening = version.lessOf(loop);
            evaluate(lessening.nodes, lessening.size());
            lessLow[loop] = low[0];
            lessHigh[loop] = high[0];
        }

        /** The expression of a set or of a filled hole, the condition of an if or a while. */
        Formula formulaOf(int statement) {
            return statement >= 0 && statement < STATEMENTS ? formula[statement] : none;
        }

        /** The variable that a statement changes by itself. */
        int targetOf(int statement) {
            return statement >= 0 && statement < STATEMENTS ? target[statement] : NONE;
        }

        /** The state behind a set or a hole. */
        int moved(int statement, int state) {
            if (statement < 0 || statement >= STATEMENTS || target[statement] == NONE) {
                return state;
            }
            int shift = 2 * target[statement];
            return (state & ~(3 << shift)) | (number(valueLow[statement], valueHigh[statement], state) << shift);
        }

        long conditionOf(int statement) {
            return statement >= 0 && statement < STATEMENTS ? valueLow[statement] : 0;
        }

        boolean holdsIn(int statement, int state) {
            return has(conditionOf(statement), state);
        }

        long keepOf(int loop) {
            return loop >= 0 && loop < STATEMENTS ? keep[loop] : 0;
        }

        int lessOf(int loop, int state) {
            return loop >= 0 && loop < STATEMENTS ? number(lessLow[loop], lessHigh[loop], state) : 0;
        }

        int greatestLess(int loop) {
            int greatest = NONE;
            for (int state = 0; state < STATES; state++) {
                if (has(keepOf(loop), state)) {
                    greatest = Math.max(greatest, lessOf(loop, state));
                }
            }
            return greatest;
        }

        static boolean has(long set, int state) {
            return ((set >>> state) & 1L) != 0;
        }

        static int least(long set) {
            return set == 0 ? NONE : Long.bitCount((set & -set) - 1);
        }

        private static int number(long lowBits, long highBits, int state) {
            return (int) ((lowBits >>> state) & 1L) + 2 * (int) ((highBits >>> state) & 1L);
        }

        long holding() {
            return low[0];
        }

        /** From the last node to the first, so that what a node needs lies on the stack already. */
        void evaluate(byte[] nodes, int size) {
            depth = 0;
            low[0] = 0;
            high[0] = 0;
            for (int i = Math.min(size, nodes.length) - 1; i >= 0; i--) {
                int node = nodes[i];
                if (node < Words.A) {
                    push(-(node & 1L), -((node >> 1) & 1L));
                } else if (node <= Words.C) {
                    push(VARIABLE_LOW[node - Words.A], VARIABLE_HIGH[node - Words.A]);
                } else if (node == Words.TRUE || node == Words.FALSE) {
                    push(node == Words.TRUE ? -1L : 0L, 0L);
                } else if (node == Words.NOT) {
                    negate();
                } else {
                    join(node);
                }
            }
        }

        private void push(long newLow, long newHigh) {
            if (depth >= 0 && depth < low.length && depth < high.length) {
                low[depth] = newLow;
                high[depth] = newHigh;
                depth++;
            }
        }

        private void negate() {
            if (depth >= 1 && depth <= low.length) {
                low[depth - 1] = ~low[depth - 1];
            }
        }

        /** Puts one value in place of the two topmost ones; the first of the text lies topmost. */
        private void join(int node) {
            if (depth < 2 || depth > low.length || depth > high.length) {
                return;
            }
            depth--;
            long firstLow = low[depth];
            long firstHigh = high[depth];
            long secondLow = low[depth - 1];
            long secondHigh = high[depth - 1];
            long odd = firstLow ^ secondLow;
            long apart = firstHigh ^ secondHigh;
            long joinedLow;
            long joinedHigh = 0;
            switch (node) {
                case Words.PLUS:
                    joinedLow = odd;
                    joinedHigh = apart ^ (firstLow & secondLow);
                    break;
                case Words.MINUS:
                    joinedLow = odd;
                    joinedHigh = apart ^ (~firstLow & secondLow);
                    break;
                case Words.TIMES:
                    joinedLow = firstLow & secondLow;
                    joinedHigh = (firstHigh & secondLow) ^ (firstLow & secondHigh);
                    break;
                case Words.EQ:
                    joinedLow = ~(odd | apart);
                    break;
                case Words.LT:
                    joinedLow = (~firstHigh & secondHigh) | (~apart & ~firstLow & secondLow);
                    break;
                case Words.AND:
                    joinedLow = firstLow & secondLow;
                    break;
                default:
                    joinedLow = firstLow | secondLow;
                    break;
            }
            low[depth - 1] = joinedLow;
            high[depth - 1] = joinedHigh;
        }
    }

    /** Where runs end, and what they meet and cost on the way. */
    private static final class Runs {
        /** A run that comes to one statement twice in the same state never ends. */
        private static final int MOST_STEPS = STATEMENTS * STATES;
        /** More than the exponent of any float or double. */
        private static final int MOST_HALVINGS = 2000;

        private final Sets sets;
        private Program program;
        private Version version;
        /** The state behind a statement that is begun in a state; NONE if it does not end. */
        private final int[] ends = new int[STATEMENTS * STATES];
        private final int[] jumps = new int[STATES];
        private final long[] seen = new long[STATEMENTS];
        private int stepsDone;
        private float costSoFar;
        private int roundsDone;
        private int mostRoundsDone;

        Runs(Sets sets) {
            this.sets = sets;
        }

        /** Rows in a statement have greater numbers than it, so that theirs stands already when it is asked. */
        void look(Program newProgram, Version newVersion) {
            program = newProgram;
            version = newVersion;
            for (int s = Math.min(program.count, STATEMENTS) - 1; s >= 0; s--) {
                if (program.kindOf(s) == WHILE) {
                    lookAtLoop(s);
                } else {
                    lookAtOther(s);
                }
            }
        }

        private void lookAtOther(int statement) {
            boolean branches = program.kindOf(statement) == IF;
            for (int state = 0; state < STATES; state++) {
                if (!branches) {
                    putEnd(statement, state, sets.moved(statement, state));
                } else if (sets.holdsIn(statement, state)) {
                    putEnd(statement, state, endOfRow(program.firstOf(statement), state));
                } else {
                    putEnd(statement, state, endOfRow(program.secondOf(statement), state));
                }
            }
        }

        /** A loop that ends does less than 64 rounds: six times doubled jumps of one round reach as far. */
        private void lookAtLoop(int statement) {
            for (int state = 0; state < STATES; state++) {
                boolean goesOn = sets.holdsIn(statement, state);
                jumps[state] = goesOn ? endOfRow(program.firstOf(statement), state) : state;
            }
            for (int reach = 1; reach < STATES; reach *= 2) {
                for (int state = 0; state < STATES; state++) {
                    int far = jumps[state];
                    jumps[state] = far >= 0 && far < STATES ? jumps[far] : NONE;
                }
            }
            for (int state = 0; state < STATES; state++) {
                int far = jumps[state];
                putEnd(statement, state, far == NONE || sets.holdsIn(statement, far) ? NONE : far);
            }
        }

        private void putEnd(int statement, int state, int end) {
            int index = statement * STATES + state;
            if (index >= 0 && index < ends.length) {
                ends[index] = end;
            }
        }

        int endOf(int statement, int state) {
            int index = statement * STATES + state;
            return state >= 0 && index >= 0 && index < ends.length ? ends[index] : NONE;
        }

        /** The state behind a row that is begun at its first statement; of an empty row the same state. */
        int endOfRow(int head, int state) {
            int at = state;
            int statement = head;
            for (int i = 0; i < STATEMENTS && program.has(statement) && at >= 0 && at < STATES; i++) {
                at = ends[statement * STATES + at];
                statement = program.next[statement];
            }
            return at;
        }

        private int endFrom(int state) {
            return endOfRow(program.start(), state);
        }

        private boolean endsFromBefore(int state) {
            return Sets.has(sets.before, state) && endFrom(state) != NONE;
        }

        private boolean looksAtCondition(int statement) {
            int kind = program.kindOf(statement);
            return kind == IF || kind == WHILE;
        }

        private int statementBehind(int statement, int state) {
            return looksAtCondition(statement)
                    ? program.entry(statement, sets.holdsIn(statement, state))
                    : program.thenOf(statement);
        }

        private int stateBehind(int statement, int state) {
            return looksAtCondition(statement) ? state : endOf(statement, state);
        }

        /** Follows a run that ends, step by step, and counts the rounds of a loop. */
        private void follow(int start, int loopStatement) {
            stepsDone = 0;
            costSoFar = 0.0f;
            roundsDone = 0;
            mostRoundsDone = 0;
            int state = start;
            int statement = program.start();
            for (int i = 0; i < MOST_STEPS && statement != NONE; i++) {
                stepsDone++;
                costSoFar = costSoFar + (float) version.priceOf(statement) / 10.0f;
                if (statement == loopStatement) {
                    countRound(sets.holdsIn(statement, state));
                }
                int then = statementBehind(statement, state);
                state = stateBehind(statement, state);
                statement = then;
            }
        }

        /** In a run that ends, each round that is begun is done to its end. */
        private void countRound(boolean goesOn) {
            roundsDone = goesOn ? roundsDone + 1 : 0;
            mostRoundsDone = Math.max(mostRoundsDone, roundsDone);
        }

        int stepsFrom(int state) {
            if (endFrom(state) == NONE) {
                return NONE;
            }
            follow(state, NONE);
            return stepsDone;
        }

        float costFrom(int state) {
            if (endFrom(state) == NONE) {
                return -1.0f;
            }
            follow(state, NONE);
            return costSoFar;
        }

        int mostRounds(int loopStatement) {
            int most = 0;
            for (int state = 0; state < STATES; state++) {
                if (endsFromBefore(state)) {
                    follow(state, loopStatement);
                    most = Math.max(most, mostRoundsDone);
                }
            }
            return most;
        }

        /** What comes behind a statement and state that were seen was seen then, too: there a run is left. */
        long metAt(int asked) {
            Arrays.fill(seen, 0L);
            for (int start = 0; start < STATES; start++) {
                int state = start;
                int statement = Sets.has(sets.before, start) ? program.start() : NONE;
                for (int i = 0; i <= MOST_STEPS && takeUnseen(statement, state); i++) {
                    int then = statementBehind(statement, state);
                    state = stateBehind(statement, state);
                    statement = then;
                }
            }
            return asked >= 0 && asked < STATEMENTS ? seen[asked] : 0L;
        }

        private boolean takeUnseen(int statement, int state) {
            if (statement < 0 || statement >= STATEMENTS || Sets.has(seen[statement], state)) {
                return false;
            }
            seen[statement] |= 1L << state;
            return true;
        }

        long wrongStates() {
            long wrongSet = 0;
            for (int state = 0; state < STATES; state++) {
                int end = endFrom(state);
                if (end == NONE || !Sets.has(sets.after, end)) {
                    wrongSet |= 1L << state;
                }
            }
            return wrongSet & sets.before;
        }

        int dearestState() {
            int dearest = NONE;
            float greatest = -1.0f;
            for (int state = 0; state < STATES; state++) {
                if (endsFromBefore(state)) {
                    follow(state, NONE);
                    if (costSoFar > greatest) {
                        greatest = costSoFar;
                        dearest = state;
                    }
                }
            }
            return dearest;
        }

        double mean() {
            double together = 0.0;
            int quantity = 0;
            for (int state = 0; state < STATES; state++) {
                if (endsFromBefore(state)) {
                    follow(state, NONE);
                    together = together + (double) costSoFar;
                    quantity++;
                }
            }
            return quantity == 0 ? 0.0 : together / (double) quantity;
        }

        /** The library has a function for this that the rules do not list; costs are never as small as subnormal. */
        static int bitsOf(float value) {
            if (value == 0.0f) {
                return 0;
            }
            float size = value < 0.0f ? -value : value;
            int exponent = 127;
            for (int i = 0; i < MOST_HALVINGS && size >= 2.0f; i++) {
                size = size / 2.0f;
                exponent++;
            }
            for (int i = 0; i < MOST_HALVINGS && size < 1.0f; i++) {
                size = size * 2.0f;
                exponent--;
            }
            int fraction = (int) ((size - 1.0f) * 8388608.0f);
            return (value < 0.0f ? 1 << 31 : 0) | (exponent << 23) | fraction;
        }

        /** Likewise; a mean of costs is never negative. */
        static long bitsOf(double value) {
            if (value <= 0.0) {
                return 0L;
            }
            double size = value;
            long exponent = 1023L;
            for (int i = 0; i < MOST_HALVINGS && size >= 2.0; i++) {
                size = size / 2.0;
                exponent++;
            }
            for (int i = 0; i < MOST_HALVINGS && size < 1.0; i++) {
                size = size * 2.0;
                exponent--;
            }
            long fraction = (long) ((size - 1.0) * 4503599627370496.0);
            return (exponent << 52) | fraction;
        }
    }

    /** The needs ahead of the statements, and for which states the duties fail. */
    private static final class Duties {
        private final Sets sets;
        private final Runs runs;
        private Program program;
        private final long[] needs = new long[STATEMENTS];
        private final long[] fails = new long[DUTIES];

        Duties(Sets sets, Runs runs) {
            this.sets = sets;
            this.runs = runs;
        }

        /** Makes all three tables anew. The needs and duties rest on the other two, which come first. */
        void look(Program newProgram, Version version) {
            program = newProgram;
            sets.look(program, version);
            runs.look(program, version);
            lookAtNeeds();
            Arrays.fill(fails, 0L);
            fails[0] = sets.before & ~ahead(program.start());
            for (int loop = 0; loop < program.loops; loop++) {
                lookAtLoop(loop, program.loopAt(loop));
            }
        }

        /** What a need is found from has a greater number, or is a loop around, whose need is known from its KEEP. */
        private void lookAtNeeds() {
            for (int loop = 0; loop < program.loops; loop++) {
                putNeed(program.loopAt(loop), sets.keepOf(loop));
            }
            for (int s = program.count - 1; s >= 0; s--) {
                if (program.kindOf(s) == IF) {
                    long condition = sets.conditionOf(s);
                    putNeed(s, condition & ahead(program.entry(s, true)) | ~condition & ahead(program.entry(s, false)));
                } else if (program.kindOf(s) != WHILE) {
                    putNeed(s, endingIn(s, behind(s)));
                }
            }
        }

        private void lookAtLoop(int loop, int statement) {
            long kept = sets.keepOf(loop);
            long condition = sets.conditionOf(statement);
            int duty = 1 + DUTIES_OF_A_LOOP * loop;
            if (duty < 1 || duty + 2 >= DUTIES) {
                return;
            }
            fails[duty] = kept & condition & ~ahead(program.entry(statement, true));
            fails[duty + 1] = kept & ~condition & ~behind(statement);
            fails[duty + 2] = kept & condition & ~lessening(loop, program.firstOf(statement));
        }

        /** The states from which a loop's row ends with a lesser LESS. */
        private long lessening(int loop, int head) {
            long set = 0;
            for (int state = 0; state < STATES; state++) {
                int end = runs.endOfRow(head, state);
                if (end != NONE && sets.lessOf(loop, end) < sets.lessOf(loop, state)) {
                    set |= 1L << state;
                }
            }
            return set;
        }

        private void putNeed(int statement, long set) {
            if (statement >= 0 && statement < STATEMENTS) {
                needs[statement] = set;
            }
        }

        /** The need ahead of a statement; at the end of the program it is AFTER. */
        long ahead(int statement) {
            return statement >= 0 && statement < STATEMENTS ? needs[statement] : sets.after;
        }

        private long behind(int statement) {
            return ahead(program.thenOf(statement));
        }

        private long endingIn(int statement, long goal) {
            long set = 0;
            for (int state = 0; state < STATES; state++) {
                int end = runs.endOf(statement, state);
                if (end != NONE && Sets.has(goal, end)) {
                    set |= 1L << state;
                }
            }
            return set;
        }

        long safeStates(int loop) {
            int statement = program.loopAt(loop);
            return endingIn(statement, behind(statement));
        }

        int count() {
            return 1 + DUTIES_OF_A_LOOP * program.loops;
        }

        long failingStates(int duty) {
            return duty >= 0 && duty < DUTIES ? fails[duty] : 0L;
        }

        int failed() {
            int quantity = 0;
            for (int duty = 0; duty < DUTIES; duty++) {
                if (fails[duty] != 0) {
                    quantity++;
                }
            }
            return quantity;
        }
    }

    /** The needs as conditions, a row for each statement and the last row for AFTER. */
    private static final class Sheet {
        private static final int ROWS = STATEMENTS + 1;
        private static final int AFTER_ROW = STATEMENTS;

        private final Sets sets;
        private Program program;
        private final byte[][] rows = new byte[ROWS][MOST_WRITTEN_NODES];
        /** The quantity of nodes of a row; NONE if they are too many. */
        private final int[] sizes = new int[ROWS];

        Sheet(Sets sets) {
            this.sets = sets;
        }

        int sizeOf(int row) {
            return row >= 0 && row < ROWS ? sizes[row] : NONE;
        }

        byte[] rowOf(int row) {
            return rows[row >= 0 && row < ROWS ? row : AFTER_ROW];
        }

        /** A need that is too large makes all that are found from it too large: none ever shrinks. */
        void write(Program newProgram, Version version) {
            program = newProgram;
            Arrays.fill(sizes, 0);
            appendFormula(AFTER_ROW, version.after);
            for (int loop = 0; loop < program.loops; loop++) {
                appendFormula(program.loopAt(loop), version.keepOf(loop));
            }
            for (int s = program.count - 1; s >= 0; s--) {
                if (program.kindOf(s) == IF) {
                    writeBranch(s);
                } else if (program.kindOf(s) != WHILE) {
                    writeSwapped(s, rowAt(program.thenOf(s)));
                }
            }
        }

        private static int rowAt(int statement) {
            return statement == NONE ? AFTER_ROW : statement;
        }

        private void writeBranch(int statement) {
            Formula condition = program.partOf(statement);
            appendNode(statement, Words.OR);
            appendNode(statement, Words.AND);
            appendFormula(statement, condition);
            appendRow(statement, rowAt(program.entry(statement, true)));
            appendNode(statement, Words.AND);
            appendNode(statement, Words.NOT);
            appendFormula(statement, condition);
            appendRow(statement, rowAt(program.entry(statement, false)));
        }

        private void writeSwapped(int statement, int source) {
            int variable = sets.targetOf(statement);
            if (variable == NONE || sizeOf(source) == NONE) {
                appendRow(statement, source);
                return;
            }
            byte[] nodes = rowOf(source);
            for (int i = 0; i < sizeOf(source) && i < nodes.length; i++) {
                if (nodes[i] == Words.A + variable) {
                    appendFormula(statement, sets.formulaOf(statement));
                } else {
                    appendNode(statement, nodes[i]);
                }
            }
        }

        private void appendRow(int row, int source) {
            if (sizeOf(source) == NONE) {
                giveUp(row);
                return;
            }
            byte[] nodes = rowOf(source);
            for (int i = 0; i < sizeOf(source) && i < nodes.length; i++) {
                appendNode(row, nodes[i]);
            }
        }

        private void appendFormula(int row, Formula formula) {
            for (int i = 0; i < formula.nodes.length; i++) {
                appendNode(row, formula.nodes[i]);
            }
        }

        private void appendNode(int row, int node) {
            int size = sizeOf(row);
            if (size >= MOST_WRITTEN_NODES) {
                giveUp(row);
            } else if (size >= 0 && row >= 0 && row < ROWS) {
                rows[row][size] = (byte) node;
                sizes[row] = size + 1;
            }
        }

        private void giveUp(int row) {
            if (row >= 0 && row < ROWS) {
                sizes[row] = NONE;
            }
        }
    }
}
