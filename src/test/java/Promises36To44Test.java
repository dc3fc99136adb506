/** Promises 36 to 44, changes, undo and save: a case for each boundary that their sentences name. */
public final class Promises36To44Test {
    private static final String AHEAD = "proof true true ";
    private static final String LOOPS_24 = AHEAD + "while true keep true less a ".repeat(24) + "end ".repeat(24);
    private static final String NOTS_29 = "not ".repeat(29);
    private static final String STATE_63 = "and eq a 3 and eq b 3 eq c 3";
    private static final int[] FAR = {-1, 24, Integer.MIN_VALUE, Integer.MAX_VALUE};
    private static final int[] WRONG_LENGTHS = {-1, 21, 800, Integer.MIN_VALUE, Integer.MAX_VALUE};

    private Promises36To44Test() {
    }

    public static void main(String[] args) {
        Cases.run(Promises36To44Test.class);
    }

    /** The four methods that parse a part of the proof, by their promises. */
    private static int parse(BackwardProofs x, int promise, int length) {
        if (promise == 36) {
            return x.setBefore(length);
        }
        if (promise == 37) {
            return x.setAfter(length);
        }
        return promise == 38 ? x.setKeep(0, length) : x.setLess(0, length);
    }

    /** A text that the method may parse. */
    private static String good(int promise) {
        return promise == 39 ? "b" : "eq c 1";
    }

    private static void taken(int promise, String text) {
        BackwardProofs x = new BackwardProofs();
        Check.feed(x, text);
        parse(x, promise, text.length());
        Check.same("errorCode() of '" + text + "'", x.errorCode(), 0);
        Check.same("value(7) behind '" + text + "'", x.value(7), 1);
    }

    private static void refused(int promise, String text, int code, int position) {
        BackwardProofs x = new BackwardProofs();
        Check.feed(x, text);
        Check.throwsState("'" + text + "'", () -> parse(x, promise, text.length()));
        Check.same("errorCode() of '" + text + "'", x.errorCode(), code);
        Check.same("errorPosition() of '" + text + "'", x.errorPosition(), position);
        Check.same("value(7) behind '" + text + "'", x.value(7), 0);
    }

    /** Of the buffer, the bytes behind the length are not parsed, and are gone behind it. */
    private static void parsesTheFirstBytes(int promise) {
        BackwardProofs x = new BackwardProofs();
        String text = good(promise) + ";";
        Check.feed(x, text);
        parse(x, promise, text.length() - 1);
        Check.same("errorCode()", x.errorCode(), 0);
        Check.throwsArgument("a length of 1: the buffer is empty", () -> parse(x, promise, 1));
        Check.same("feed()", x.feed(0, 0, 0, 0, 0), 20);
    }

    private static void aLengthOf0IsAnError(int promise) {
        BackwardProofs x = new BackwardProofs();
        Check.throwsState("a length of 0", () -> parse(x, promise, 0));
        Check.same("errorCode()", x.errorCode(), 1);
        Check.same("errorPosition()", x.errorPosition(), 0);
        Check.feed(x, good(promise));
        Check.throwsState("a length of 0 of 20 bytes", () -> parse(x, promise, 0));
        Check.throwsArgument("a length of 1: the buffer is empty", () -> parse(x, promise, 1));
    }

    private static void aLengthOf800(int promise) {
        BackwardProofs x = new BackwardProofs();
        Check.feed(x, " ".repeat(800 - good(promise).length()) + good(promise));
        parse(x, promise, 800);
        Check.same("errorCode()", x.errorCode(), 0);
        Check.same("value(7)", x.value(7), 1);
    }

    private static void wrongLengths(int promise) {
        BackwardProofs x = new BackwardProofs();
        Check.throwsArgument("a length of 1 of the empty buffer", () -> parse(x, promise, 1));
        Check.feed(x, good(promise));
        for (int length : WRONG_LENGTHS) {
            Check.throwsArgument("a length of " + length, () -> parse(x, promise, length));
        }
        Check.same("value(7)", x.value(7), 0);
        parse(x, promise, good(promise).length());
        Check.same("value(7): the buffer was as it was", x.value(7), 1);
    }

    private static void theErrorStaysBehindAWrongLength(int promise) {
        BackwardProofs x = new BackwardProofs();
        Check.throwsArgument("a length of 1", () -> parse(x, promise, 1));
        Check.same("errorCode()", x.errorCode(), 0);
        Check.same("errorPosition()", x.errorPosition(), -1);
        Check.throwsState("load()", () -> Check.load(x, "proof eq 9"));
        Check.throwsArgument("a length of 1", () -> parse(x, promise, 1));
        Check.throwsArgument("a length of -1", () -> parse(x, promise, -1));
        Check.same("errorCode()", x.errorCode(), 2);
        Check.same("errorPosition()", x.errorPosition(), 9);
    }

    private static void anErrorChangesNothingElse(int promise) {
        BackwardProofs x = new BackwardProofs();
        x.save(1);
        x.fill(0, 3);
        x.writeNeed(1);
        String picture = Check.picture(x);
        Check.feed(x, good(promise) + " ;");
        Check.throwsState("an error at the end", () -> parse(x, promise, good(promise).length() + 2));
        Check.same("errorCode()", x.errorCode(), 1);
        Check.same("errorPosition()", x.errorPosition(), good(promise).length() + 1);
        Check.sameText("the picture", Check.picture(x), picture);
        Check.same("value(7)", x.value(7), 1);
        Check.sameText("the output", Check.output(x, 6), "eq b 2");
        Check.same("feed(): the buffer is empty", x.feed(0, 0, 0, 0, 0), 20);
        Check.throwsState("restore(0)", () -> x.restore(0));
        Check.same("restore(1)", x.restore(1), 0);
        Check.same("undo()", x.undo(), 1);
    }

    private static void justOneCondition(int promise) {
        taken(promise, "true");
        taken(promise, " \n true \n ");
        taken(promise, "and or eq a 0 lt b 1 not false");
        refused(promise, "", 1, 0);
        refused(promise, " ", 1, 1);
        refused(promise, "true true", 1, 5);
        refused(promise, "true hole", 1, 5);
        refused(promise, "true 7", 1, 5);
        refused(promise, "true;", 1, 4);
        refused(promise, "true1", 1, 4);
        refused(promise, "eq1 1", 1, 2);
        refused(promise, "and true", 1, 8);
        refused(promise, "eq a", 1, 4);
        refused(promise, "a", 1, 0);
        refused(promise, "3", 1, 0);
        refused(promise, "4", 1, 0);
        refused(promise, "proof true true", 1, 0);
        refused(promise, "eq 4 a", 2, 3);
        refused(promise, "eq a 0003", 1, 5);
    }

    private static void aConditionOf30NodesAndOneOf31(int promise) {
        taken(promise, NOTS_29 + "true");
        refused(promise, NOTS_29 + "not true", 4, 120);
        refused(promise, NOTS_29 + "eq a 1", 4, 119);
    }

    private static void noSuchLoop(int promise) {
        BackwardProofs x = new BackwardProofs();
        Check.feed(x, good(promise));
        int length = good(promise).length();
        Check.throwsMissing("the loop 1", () -> parseOfLoop(x, promise, 1, length));
        for (int loop : FAR) {
            Check.throwsMissing("the loop " + loop, () -> parseOfLoop(x, promise, loop, length));
        }
        BackwardProofs none = Check.loaded(AHEAD + "hole");
        Check.throwsMissing("the loop 0 of none", () -> parseOfLoop(none, promise, 0, 0));
        BackwardProofs all = Check.loaded(LOOPS_24);
        Check.feed(all, good(promise));
        Check.throwsMissing("the loop 24", () -> parseOfLoop(all, promise, 24, length));
        parseOfLoop(all, promise, 23, length);
        Check.same("value(7)", all.value(7), 1);
    }

    private static int parseOfLoop(BackwardProofs x, int promise, int loop, int length) {
        return promise == 38 ? x.setKeep(loop, length) : x.setLess(loop, length);
    }

    private static void theBufferStaysWithoutSuchALoop(int promise) {
        BackwardProofs x = new BackwardProofs();
        Check.throwsState("load()", () -> Check.load(x, "proof eq 9"));
        Check.feed(x, good(promise));
        Check.throwsMissing("the loop 1", () -> parseOfLoop(x, promise, 1, 1));
        Check.throwsMissing("the loop -1 and a wrong length", () -> parseOfLoop(x, promise, -1, 21));
        Check.same("errorCode()", x.errorCode(), 2);
        Check.same("errorPosition()", x.errorPosition(), 9);
        parseOfLoop(x, promise, 0, good(promise).length());
        Check.same("value(7)", x.value(7), 1);
    }

    // ---- Promise 36: setBefore

    private static final String FIRST_BYTES = "Parses the first length bytes of the buffer;";
    private static final String EMPTIED = "The input buffer is emptied unless an IllegalArgumentException is thrown.";
    private static final String HOLDS = "Returns the quantity of states in which it holds.";
    private static final String RANGE = "number of bytes, 0 to the length of the buffer";
    private static final String OUT = "Throws `IllegalArgumentException` if length is out of range;";
    private static final String STAYS = "errorCode() and errorPosition() do not change then";
    private static final String ERROR = "Throws `IllegalStateException` if the text has an error;";
    private static final String ONLY = "then only the input buffer, errorCode() and errorPosition() change";

    @Says({FIRST_BYTES, EMPTIED})
    static void promise36_onlyTheFirstBytesAndThenTheBufferIsEmpty() {
        parsesTheFirstBytes(36);
    }

    @Says("they must be just one condition, which becomes BEFORE.")
    static void promise36_justOneCondition() {
        justOneCondition(36);
    }

    @Says("which becomes BEFORE.")
    static void promise36_itBecomesBeforeAndNothingElse() {
        BackwardProofs x = new BackwardProofs();
        Check.setBefore(x, STATE_63);
        Check.same("before()", x.before(), Long.MIN_VALUE);
        Check.sameText("the picture", Check.picture(x), Check.picture(Check.loaded("proof " + STATE_63
                + " and eq a 0 eq b 2 set b 2 while lt 0 a keep eq b 2 less a set a minus a 1 end hole")));
    }

    @Says("they must be just one condition")
    static void promise36_aConditionOf30NodesAndOneOf31() {
        aConditionOf30NodesAndOneOf31(36);
    }

    @Says(RANGE)
    static void promise36_theLeastAndTheGreatestLength() {
        aLengthOf0IsAnError(36);
        aLengthOf800(36);
    }

    @Says(HOLDS)
    static void promise36_quantitiesFrom0To64() {
        BackwardProofs x = new BackwardProofs();
        Check.same("none", Check.setBefore(x, "false"), 0);
        Check.same("one", Check.setBefore(x, STATE_63), 1);
        Check.same("all but one", Check.setBefore(x, "not " + STATE_63), 63);
        Check.same("all", Check.setBefore(x, "true"), 64);
    }

    @Says({OUT, EMPTIED})
    static void promise36_lengthsOutOfRangeLeaveTheBuffer() {
        wrongLengths(36);
    }

    @Says(STAYS)
    static void promise36_theErrorStaysBehindAWrongLength() {
        theErrorStaysBehindAWrongLength(36);
    }

    @Says({ERROR, ONLY})
    static void promise36_anErrorChangesNothingElse() {
        anErrorChangesNothingElse(36);
    }

    // ---- Promise 37: setAfter

    @Says(FIRST_BYTES)
    static void promise37_onlyTheFirstBytesAndThenTheBufferIsEmpty() {
        parsesTheFirstBytes(37);
    }

    @Says("they must be just one condition, which becomes AFTER (likewise).")
    static void promise37_justOneCondition() {
        justOneCondition(37);
    }

    @Says("which becomes AFTER")
    static void promise37_itBecomesAfterAndNothingElse() {
        BackwardProofs x = new BackwardProofs();
        Check.setAfter(x, STATE_63);
        Check.same("after()", x.after(), Long.MIN_VALUE);
        Check.sameText("the picture", Check.picture(x), Check.picture(Check.loaded("proof lt a 3 " + STATE_63
                + " set b 2 while lt 0 a keep eq b 2 less a set a minus a 1 end hole")));
    }

    @Says("they must be just one condition")
    static void promise37_aConditionOf30NodesAndOneOf31() {
        aConditionOf30NodesAndOneOf31(37);
    }

    @Says(RANGE)
    static void promise37_theLeastAndTheGreatestLength() {
        aLengthOf0IsAnError(37);
        aLengthOf800(37);
    }

    @Says(HOLDS)
    static void promise37_quantitiesFrom0To64() {
        BackwardProofs x = new BackwardProofs();
        Check.same("none", Check.setAfter(x, "false"), 0);
        Check.same("one", Check.setAfter(x, STATE_63), 1);
        Check.same("all but one", Check.setAfter(x, "not " + STATE_63), 63);
        Check.same("all", Check.setAfter(x, "true"), 64);
    }

    @Says({OUT, "(likewise)."})
    static void promise37_lengthsOutOfRangeLeaveTheBuffer() {
        wrongLengths(37);
    }

    @Says(STAYS)
    static void promise37_theErrorStaysBehindAWrongLength() {
        theErrorStaysBehindAWrongLength(37);
    }

    @Says({ERROR, ONLY})
    static void promise37_anErrorChangesNothingElse() {
        anErrorChangesNothingElse(37);
    }

    // ---- Promise 38: setKeep

    @Says(FIRST_BYTES)
    static void promise38_onlyTheFirstBytesAndThenTheBufferIsEmpty() {
        parsesTheFirstBytes(38);
    }

    @Says("they must be just one condition, which becomes KEEP of a loop")
    static void promise38_justOneCondition() {
        justOneCondition(38);
    }

    @Says("which becomes KEEP of a loop")
    static void promise38_itBecomesKeepOfThisLoopAlone() {
        BackwardProofs x = Check.loaded(LOOPS_24);
        Check.setKeep(x, 0, "lt a 1");
        Check.setKeep(x, 23, "lt a 2");
        Check.same("loopSet(0, 1)", x.loopSet(0, 1), Check.states(s -> Check.a(s) == 0));
        Check.same("loopSet(23, 1)", x.loopSet(23, 1), Check.states(s -> Check.a(s) < 2));
        for (int loop = 1; loop < 23; loop++) {
            Check.same("loopSet(" + loop + ", 1)", x.loopSet(loop, 1), -1L);
        }
        Check.same("loopSet(23, 0)", x.loopSet(23, 0), -1L);
        Check.same("less(23, 3)", x.less(23, 3), 3);
    }

    @Says("they must be just one condition")
    static void promise38_aConditionOf30NodesAndOneOf31() {
        aConditionOf30NodesAndOneOf31(38);
    }

    @Says("the input buffer is not emptied either if there is no such loop).")
    static void promise38_theBufferStaysWithoutSuchALoop() {
        theBufferStaysWithoutSuchALoop(38);
    }

    @Says(RANGE)
    static void promise38_theLeastAndTheGreatestLength() {
        aLengthOf0IsAnError(38);
        aLengthOf800(38);
    }

    @Says(HOLDS)
    static void promise38_quantitiesFrom0To64() {
        BackwardProofs x = new BackwardProofs();
        Check.same("none", Check.setKeep(x, 0, "false"), 0);
        Check.same("one", Check.setKeep(x, 0, STATE_63), 1);
        Check.same("all but one", Check.setKeep(x, 0, "not " + STATE_63), 63);
        Check.same("all", Check.setKeep(x, 0, "true"), 64);
    }

    @Says("Throws `NoSuchElementException` if there is no such loop")
    static void promise38_noSuchLoop() {
        noSuchLoop(38);
    }

    @Says({OUT, "(likewise;"})
    static void promise38_lengthsOutOfRangeLeaveTheBuffer() {
        wrongLengths(38);
    }

    @Says(STAYS)
    static void promise38_theErrorStaysBehindAWrongLength() {
        theErrorStaysBehindAWrongLength(38);
    }

    @Says({ERROR, ONLY})
    static void promise38_anErrorChangesNothingElse() {
        anErrorChangesNothingElse(38);
    }

    // ---- Promise 39: setLess

    @Says(FIRST_BYTES)
    static void promise39_onlyTheFirstBytesAndThenTheBufferIsEmpty() {
        parsesTheFirstBytes(39);
    }

    @Says("they must be just one expression, which becomes LESS of a loop")
    static void promise39_justOneExpression() {
        taken(39, "0");
        taken(39, " \n c \n ");
        taken(39, "plus minus a 1 times b 003");
        refused(39, "", 1, 0);
        refused(39, "  ", 1, 2);
        refused(39, "a b", 1, 2);
        refused(39, "a 4", 1, 2);
        refused(39, "a;", 1, 1);
        refused(39, "a1", 1, 1);
        refused(39, "plus1 1", 1, 4);
        refused(39, "1a", 1, 1);
        refused(39, "plus a", 1, 6);
        refused(39, "true", 1, 0);
        refused(39, "eq a b", 1, 0);
        refused(39, "plus true a", 1, 5);
        refused(39, "4", 2, 0);
        refused(39, "1000", 1, 0);
        refused(39, "d", 1, 0);
    }

    @Says("they must be just one expression")
    static void promise39_anExpressionOf29NodesAndOneOf31() {
        taken(39, "plus a ".repeat(14) + "a");
        refused(39, "plus a ".repeat(15) + "a", 4, 105);
        refused(39, "plus a ".repeat(15) + "4", 2, 105);
    }

    @Says("which becomes LESS of a loop")
    static void promise39_itBecomesLessOfThisLoopAlone() {
        BackwardProofs x = Check.loaded(LOOPS_24);
        Check.setLess(x, 0, "1");
        Check.setLess(x, 23, "2");
        Check.same("less(0, 3)", x.less(0, 3), 1);
        Check.same("less(23, 3)", x.less(23, 3), 2);
        for (int loop = 1; loop < 23; loop++) {
            Check.same("less(" + loop + ", 3)", x.less(loop, 3), 3);
        }
        Check.same("loopSet(23, 1)", x.loopSet(23, 1), -1L);
    }

    @Says("the input buffer is not emptied either if there is no such loop).")
    static void promise39_theBufferStaysWithoutSuchALoop() {
        theBufferStaysWithoutSuchALoop(39);
    }

    @Says(RANGE)
    static void promise39_theLeastAndTheGreatestLength() {
        aLengthOf0IsAnError(39);
        aLengthOf800(39);
    }

    @Says("Returns the greatest value that it has in a state of KEEP;")
    static void promise39_valuesFrom0To3() {
        BackwardProofs x = new BackwardProofs();
        for (int value = 0; value < 4; value++) {
            Check.same("" + value, Check.setLess(x, 0, "" + value), value);
        }
        Check.setKeep(x, 0, "true");
        Check.same("a", Check.setLess(x, 0, "a"), 3);
        Check.same("2 * a", Check.setLess(x, 0, "times 2 a"), 2);
    }

    @Says("in a state of KEEP;")
    static void promise39_onlyStatesOfKeepCount() {
        BackwardProofs x = new BackwardProofs();
        Check.same("b, where b is 2", Check.setLess(x, 0, "b"), 2);
        Check.setKeep(x, 0, "and eq a 0 and eq b 0 eq c 0");
        Check.same("a in state 0", Check.setLess(x, 0, "a"), 0);
        Check.setKeep(x, 0, STATE_63);
        Check.same("a in state 63", Check.setLess(x, 0, "a"), 3);
        Check.same("minus 3 a in state 63", Check.setLess(x, 0, "minus 3 a"), 0);
    }

    @Says("NONE if there is no such state.")
    static void promise39_withoutAStateOfKeep() {
        BackwardProofs x = new BackwardProofs();
        Check.setKeep(x, 0, "false");
        Check.same("3", Check.setLess(x, 0, "3"), -1);
        Check.same("0", Check.setLess(x, 0, "0"), -1);
        Check.same("value(7): they are changes", x.value(7), 3);
        Check.same("less(0, 0)", x.less(0, 0), 0);
    }

    @Says("Throws `NoSuchElementException` if there is no such loop")
    static void promise39_noSuchLoop() {
        noSuchLoop(39);
    }

    @Says({OUT, "(likewise;"})
    static void promise39_lengthsOutOfRangeLeaveTheBuffer() {
        wrongLengths(39);
    }

    @Says(STAYS)
    static void promise39_theErrorStaysBehindAWrongLength() {
        theErrorStaysBehindAWrongLength(39);
    }

    @Says({ERROR, ONLY})
    static void promise39_anErrorChangesNothingElse() {
        anErrorChangesNothingElse(39);
    }

    // ---- Promise 40: fill

    @Says("a FILLING, 0 to 38; NONE: it is not filled any more")
    static void promise40_theLeastAndTheGreatestFilling() {
        BackwardProofs x = Check.loaded(AHEAD + "hole");
        x.fill(0, 0);
        Check.same("run(63) with 0", x.run(63), 60);
        x.fill(0, 38);
        Check.same("run(63) with 38", x.run(63), 47);
        Check.same("value(3)", x.value(3), 1);
    }

    @Says("NONE: it is not filled any more")
    static void promise40_noneEmptiesAHole() {
        BackwardProofs x = Check.loaded(AHEAD + "hole");
        x.fill(0, 5);
        x.fill(0, BackwardProofs.NONE);
        Check.same("value(3)", x.value(3), 0);
        Check.same("statement(0, 1)", x.statement(0, 1), -1);
        Check.same("run(62)", x.run(62), 62);
        x.fill(0, -1);
        Check.same("value(3): it was empty", x.value(3), 0);
        Check.same("value(7)", x.value(7), 3);
    }

    @Says("a FILLING, 0 to 38;")
    static void promise40_eachHoleOnItsOwn() {
        BackwardProofs x = Check.loaded(AHEAD + "hole ".repeat(24));
        x.fill(0, 1);
        x.fill(23, 15);
        Check.same("run(0)", x.run(0), 1 + 8);
        Check.same("the variable of the first", x.statement(0, 1), 0);
        Check.same("the variable of the last", x.statement(23, 1), 1);
        for (int statement = 1; statement < 23; statement++) {
            Check.same("the variable of " + statement, x.statement(statement, 1), -1);
        }
    }

    @Says("Returns duties that fail then.")
    static void promise40_dutiesThatFailFromNoneToAll() {
        BackwardProofs x = Check.loaded("proof eq a 2 eq b 3 hole while eq a 2 keep eq a 2 less 0 set a 1 end");
        // duty 0 fails if a is not 2 any more; all but duty 0 fail whatever the hole does
        Check.same("fill(0, 2)", x.fill(0, 2), 2);
        Check.same("fill(0, 1)", x.fill(0, 1), 3);
        Check.same("fill(0, -1)", x.fill(0, -1), 2);
        BackwardProofs y = Check.loaded("proof true eq a 0 hole");
        Check.same("none", y.fill(0, 0), 0);
        Check.same("duty 0", y.fill(0, 1), 1);
    }

    @Says("Throws `NoSuchElementException` if there is no such hole")
    static void promise40_noSuchHole() {
        BackwardProofs x = new BackwardProofs();
        Check.throwsMissing("fill(1, 0)", () -> x.fill(1, 0));
        for (int hole : FAR) {
            Check.throwsMissing("fill(" + hole + ", 0)", () -> x.fill(hole, 0));
        }
        BackwardProofs none = Check.loaded(AHEAD + "set a 1");
        Check.throwsMissing("fill(0, 0) of no holes", () -> none.fill(0, 0));
        Check.same("value(7)", x.value(7), 0);
    }

    @Says("Throws `IllegalArgumentException` if filling is out of range")
    static void promise40_fillingsOutOfRange() {
        BackwardProofs x = new BackwardProofs();
        x.fill(0, 3);
        int[] fillings = {-2, 39, Integer.MIN_VALUE, Integer.MAX_VALUE};
        for (int filling : fillings) {
            Check.throwsArgument("fill(0, " + filling + ")", () -> x.fill(0, filling));
        }
        Check.same("value(3): the filling stays", x.value(3), 1);
        Check.same("value(7)", x.value(7), 1);
    }

    // ---- Promise 41: setPrice

    @Says("0 to 99")
    static void promise41_theLeastAndTheGreatestPrice() {
        BackwardProofs x = new BackwardProofs();
        x.setPrice(0, 0);
        Check.same("statement(0, 5)", x.statement(0, 5), 0);
        x.setPrice(0, 99);
        Check.same("statement(0, 5)", x.statement(0, 5), 99);
    }

    @Says("Returns its PRICE before.")
    static void promise41_thePriceBefore() {
        BackwardProofs x = new BackwardProofs();
        Check.same("setPrice(3, 0)", x.setPrice(3, 0), 10);
        Check.same("setPrice(3, 99)", x.setPrice(3, 99), 0);
        Check.same("setPrice(3, 99)", x.setPrice(3, 99), 99);
        Check.same("setPrice(3, 1)", x.setPrice(3, 1), 99);
        Check.same("setPrice(2, 1): of another one", x.setPrice(2, 1), 10);
    }

    @Says("Throws `NoSuchElementException` if there is no such statement")
    static void promise41_noSuchStatement() {
        BackwardProofs x = new BackwardProofs();
        Check.throwsMissing("setPrice(4, 0)", () -> x.setPrice(4, 0));
        for (int statement : FAR) {
            Check.throwsMissing("setPrice(" + statement + ", 0)", () -> x.setPrice(statement, 0));
        }
        BackwardProofs none = Check.loaded("proof true true");
        Check.throwsMissing("setPrice(0, 0) of no statements", () -> none.setPrice(0, 0));
        BackwardProofs all = Check.loaded(LOOPS_24);
        Check.throwsMissing("setPrice(24, 0)", () -> all.setPrice(24, 0));
        Check.same("setPrice(23, 0)", all.setPrice(23, 0), 10);
    }

    @Says("Throws `IllegalArgumentException` if price is out of range")
    static void promise41_pricesOutOfRange() {
        BackwardProofs x = new BackwardProofs();
        int[] prices = {-1, 100, Integer.MIN_VALUE, Integer.MAX_VALUE};
        for (int price : prices) {
            Check.throwsArgument("setPrice(0, " + price + ")", () -> x.setPrice(0, price));
        }
        Check.same("statement(0, 5)", x.statement(0, 5), 10);
        Check.same("value(7)", x.value(7), 0);
    }

    // ---- Promise 42: restore

    @Says("0 or 1")
    static void promise42_bothSlots() {
        BackwardProofs x = new BackwardProofs();
        x.setPrice(0, 1);
        x.save(0);
        x.setPrice(0, 2);
        x.save(1);
        x.restore(0);
        Check.same("of the slot 0", x.statement(0, 5), 1);
        x.restore(1);
        Check.same("of the slot 1", x.statement(0, 5), 2);
    }

    @Says("Makes everything that undo() brings back what it was at the latest save() with this slot.")
    static void promise42_everythingComesBack() {
        BackwardProofs x = new BackwardProofs();
        x.save(1);
        Check.setBefore(x, "eq c 1");
        Check.setAfter(x, "eq c 2");
        Check.setKeep(x, 0, "eq c 3");
        Check.setLess(x, 0, "3");
        x.fill(0, 38);
        x.setPrice(1, 99);
        String picture = Check.picture(x);
        x.save(0);
        x.restore(1);
        Check.sameText("the picture of the slot 1", Check.picture(x), Check.picture(new BackwardProofs()));
        x.restore(0);
        Check.sameText("the picture of the slot 0", Check.picture(x), picture);
    }

    @Says("at the latest save() with this slot.")
    static void promise42_theLatestSaveCounts() {
        BackwardProofs x = new BackwardProofs();
        x.setPrice(0, 1);
        x.save(0);
        x.setPrice(0, 2);
        x.save(0);
        x.setPrice(0, 3);
        x.restore(0);
        Check.same("the price", x.statement(0, 5), 2);
    }

    @Says("Makes everything that undo() brings back")
    static void promise42_theBuffersAndTheErrorStay() {
        BackwardProofs x = new BackwardProofs();
        x.save(0);
        x.fill(0, 3);
        x.writeNeed(1);
        Check.throwsState("setAfter()", () -> Check.setAfter(x, "eq 9"));
        Check.feed(x, "true");
        x.restore(0);
        Check.same("errorCode()", x.errorCode(), 2);
        Check.same("errorPosition()", x.errorPosition(), 3);
        Check.sameText("the output", Check.output(x, 6), "eq b 2");
        Check.same("setBefore(): the input", x.setBefore(4), 64);
    }

    @Says("It stays saved.")
    static void promise42_itStaysSaved() {
        BackwardProofs x = new BackwardProofs();
        x.setPrice(0, 1);
        x.save(0);
        for (int price = 50; price < 54; price++) {
            x.setPrice(0, price);
            x.restore(0);
            Check.same("the price", x.statement(0, 5), 1);
        }
        Check.same("save(1): both", x.save(1), 2);
    }

    @Says("It stays saved.")
    static void promise42_changesBehindItDoNotReachWhatIsSaved() {
        BackwardProofs x = new BackwardProofs();
        x.save(0);
        x.restore(0);
        x.setPrice(0, 77);
        x.fill(0, 7);
        Check.setKeep(x, 0, "true");
        Check.setBefore(x, "true");
        x.restore(0);
        Check.sameText("the picture", Check.picture(x), Check.picture(new BackwardProofs()));
    }

    @Says("Returns duties that fail then.")
    static void promise42_dutiesThatFailFromNoneToAll() {
        BackwardProofs x = Check.loaded("proof true false while eq b 0 keep eq a 0 less 0 set a 1 end");
        x.save(0);
        Check.setBefore(x, "false");
        Check.setKeep(x, 0, "false");
        x.save(1);
        Check.same("restore(0): all four", x.restore(0), 4);
        Check.same("restore(1): none", x.restore(1), 0);
    }

    @Says("Throws `IllegalArgumentException` if slot is out of range")
    static void promise42_slotsOutOfRange() {
        BackwardProofs x = new BackwardProofs();
        x.save(0);
        x.save(1);
        int[] slots = {-1, 2, Integer.MIN_VALUE, Integer.MAX_VALUE};
        for (int slot : slots) {
            Check.throwsArgument("restore(" + slot + ")", () -> x.restore(slot));
        }
        Check.same("value(7)", x.value(7), 0);
    }

    private static final String NO_SAVE = "Throws `IllegalStateException` if there was no such save() since the latest load() "
            + "that replaced everything";

    @Says(NO_SAVE)
    static void promise42_nothingIsSavedInThisSlot() {
        BackwardProofs x = new BackwardProofs();
        Check.throwsState("restore(0)", () -> x.restore(0));
        Check.throwsState("restore(1)", () -> x.restore(1));
        x.save(1);
        Check.throwsState("restore(0): only 1 is saved", () -> x.restore(0));
        Check.same("value(7)", x.value(7), 0);
        x.restore(1);
        Check.same("value(7)", x.value(7), 1);
    }

    @Says("since the latest load() that replaced everything")
    static void promise42_aLoadForgetsWhatWasSaved() {
        BackwardProofs x = new BackwardProofs();
        x.save(0);
        x.save(1);
        Check.load(x, AHEAD + "hole");
        Check.throwsState("restore(0)", () -> x.restore(0));
        x.save(0);
        Check.throwsState("restore(1)", () -> x.restore(1));
        Check.same("restore(0)", x.restore(0), 0);
    }

    @Says("since the latest load() that replaced everything")
    static void promise42_aLoadThatThrowsForgetsNothing() {
        BackwardProofs x = new BackwardProofs();
        x.save(0);
        Check.throwsState("load()", () -> Check.load(x, "proof true"));
        Check.throwsArgument("load(1)", () -> x.load(1));
        Check.same("restore(0)", x.restore(0), 0);
    }

    // ---- Promise 43: undo

    @Says("Undoes the latest change that was not undone.")
    static void promise43_theLatestChangeThatWasNotUndone() {
        BackwardProofs x = new BackwardProofs();
        x.setPrice(0, 1);
        x.setPrice(0, 2);
        x.setPrice(0, 3);
        x.undo();
        Check.same("the price", x.statement(0, 5), 2);
        x.setPrice(0, 4);
        x.undo();
        Check.same("the price", x.statement(0, 5), 2);
        x.undo();
        Check.same("the price", x.statement(0, 5), 1);
        x.undo();
        Check.same("the price", x.statement(0, 5), 10);
    }

    @Says("Undoes the latest change that was not undone.")
    static void promise43_ofTwoChangesOfOneKindOnlyTheLatest() {
        BackwardProofs x = new BackwardProofs();
        x.fill(0, 5);
        x.setPrice(1, 7);
        x.fill(0, 20);
        x.undo();
        Check.same("the hole's variable", x.statement(3, 1), 0);
        Check.same("the price", x.statement(1, 5), 7);
    }

    @Says("Returns how many changes can still be undone.")
    static void promise43_from9To0() {
        BackwardProofs x = new BackwardProofs();
        for (int i = 0; i < 11; i++) {
            x.fill(0, i);
        }
        for (int left = 9; left >= 0; left--) {
            Check.same("undo()", x.undo(), left);
            Check.same("value(7)", x.value(7), left);
        }
    }

    @Says("Throws `IllegalStateException` if there is none")
    static void promise43_withoutAChange() {
        BackwardProofs x = new BackwardProofs();
        Check.throwsState("undo()", x::undo);
        x.fill(0, 1);
        x.undo();
        Check.throwsState("undo() of what was undone", x::undo);
        Check.throwsState("undo(), once more", x::undo);
        Check.same("value(7)", x.value(7), 0);
        Check.sameText("the picture", Check.picture(x), Check.picture(new BackwardProofs()));
    }

    @Says("Throws `IllegalStateException` if there is none")
    static void promise43_theEleventhChangeBackCannotBeUndone() {
        BackwardProofs x = new BackwardProofs();
        for (int price = 1; price <= 11; price++) {
            x.setPrice(0, price);
        }
        for (int i = 0; i < 10; i++) {
            x.undo();
        }
        Check.throwsState("undo()", x::undo);
        Check.same("the price", x.statement(0, 5), 1);
    }

    // ---- Promise 44: save

    @Says("Saves everything that undo() brings back in a slot, in place of what was saved there.")
    static void promise44_inPlaceOfWhatWasSavedThere() {
        BackwardProofs x = new BackwardProofs();
        x.setPrice(0, 1);
        x.save(0);
        x.save(1);
        x.setPrice(0, 2);
        Check.same("save(0)", x.save(0), 2);
        x.restore(1);
        Check.same("the price of the slot 1", x.statement(0, 5), 1);
        x.restore(0);
        Check.same("the price of the slot 0", x.statement(0, 5), 2);
    }

    @Says("Saves everything that undo() brings back in a slot")
    static void promise44_whatIsSavedIsAsItWasAtTheSave() {
        BackwardProofs x = new BackwardProofs();
        Check.setAfter(x, "lt b 1");
        Check.setLess(x, 0, "c");
        x.fill(0, 14);
        String picture = Check.picture(x);
        x.save(1);
        x.fill(0, -1);
        Check.setAfter(x, "true");
        Check.setLess(x, 0, "0");
        x.setPrice(3, 0);
        x.restore(1);
        Check.sameText("the picture", Check.picture(x), picture);
    }

    @Says("This is not a change and is not undone.")
    static void promise44_itIsNoChange() {
        BackwardProofs x = new BackwardProofs();
        x.save(0);
        Check.same("value(7)", x.value(7), 0);
        Check.throwsState("undo()", x::undo);
        x.setPrice(0, 5);
        x.save(0);
        Check.same("value(7)", x.value(7), 1);
    }

    @Says("This is not a change and is not undone.")
    static void promise44_itIsNotUndone() {
        BackwardProofs x = new BackwardProofs();
        x.setPrice(0, 5);
        x.save(0);
        x.undo();
        Check.same("the price", x.statement(0, 5), 10);
        x.restore(0);
        Check.same("the price that was saved", x.statement(0, 5), 5);
        x.undo();
        Check.same("the price", x.statement(0, 5), 10);
    }

    @Says("0 or 1")
    static void promise44_bothSlots() {
        BackwardProofs x = new BackwardProofs();
        Check.same("save(1)", x.save(1), 1);
        Check.same("save(0)", x.save(0), 2);
        Check.same("restore(0)", x.restore(0), 0);
        Check.same("restore(1)", x.restore(1), 0);
    }

    @Says("Returns the quantity of slots in which something is saved then.")
    static void promise44_quantitiesFrom1To2() {
        BackwardProofs x = new BackwardProofs();
        Check.same("save(0)", x.save(0), 1);
        Check.same("save(0) again", x.save(0), 1);
        Check.same("save(1)", x.save(1), 2);
        Check.same("save(0) again", x.save(0), 2);
        Check.load(x, AHEAD + "hole");
        Check.same("save(1) behind a load", x.save(1), 1);
    }

    @Says("Throws `IllegalArgumentException` if slot is out of range")
    static void promise44_slotsOutOfRange() {
        BackwardProofs x = new BackwardProofs();
        int[] slots = {-1, 2, Integer.MIN_VALUE, Integer.MAX_VALUE};
        for (int slot : slots) {
            Check.throwsArgument("save(" + slot + ")", () -> x.save(slot));
        }
        Check.throwsState("restore(0)", () -> x.restore(0));
        Check.same("save(0): the first", x.save(0), 1);
    }
}
