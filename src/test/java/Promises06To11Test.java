/** Promises 6 to 11, what there is: a case for each boundary that their sentences name. */
public final class Promises06To11Test {
    private static final String AHEAD = "proof true true ";
    private static final String LOOPS_24 = AHEAD + "while true keep true less a ".repeat(24) + "end ".repeat(24);
    private static final int[] FAR = {-1, Integer.MIN_VALUE, Integer.MAX_VALUE};

    private Promises06To11Test() {
    }

    public static void main(String[] args) {
        Cases.run(Promises06To11Test.class);
    }

    // ---- Promise 6: value

    @Says("0 statements")
    static void promise06_statementsFrom0To24() {
        Check.same("value(0)", Check.loaded("proof true true").value(0), 0);
        Check.same("value(0)", Check.loaded(AHEAD + "hole ".repeat(24)).value(0), 24);
        Check.same("value(0): those in others", Check.loaded(LOOPS_24).value(0), 24);
    }

    @Says("1 loops")
    static void promise06_loopsFrom0To24() {
        Check.same("value(1)", Check.loaded(AHEAD + "if true hole else end").value(1), 0);
        Check.same("value(1)", Check.loaded(LOOPS_24).value(1), 24);
    }

    @Says("2 holes")
    static void promise06_holesFrom0To24() {
        Check.same("value(2)", Check.loaded(AHEAD + "set a 1").value(2), 0);
        Check.same("value(2)", Check.loaded(AHEAD + "hole ".repeat(24)).value(2), 24);
    }

    @Says("3 filled holes")
    static void promise06_filledHolesFrom0To24() {
        BackwardProofs x = Check.loaded(AHEAD + "hole ".repeat(24));
        Check.same("value(3)", x.value(3), 0);
        for (int hole = 0; hole < 24; hole++) {
            x.fill(hole, 0);
            Check.same("value(3)", x.value(3), hole + 1);
        }
        x.fill(23, 38);
        Check.same("value(3): filled once more", x.value(3), 24);
        x.fill(0, -1);
        Check.same("value(3): one not any more", x.value(3), 23);
        x.fill(0, -1);
        Check.same("value(3): still not", x.value(3), 23);
    }

    @Says("4 duties")
    static void promise06_dutiesFrom1To73() {
        Check.same("value(4)", Check.loaded("proof true true").value(4), 1);
        Check.same("value(4)", Check.loaded(AHEAD + "while true keep true less 0 end").value(4), 4);
        Check.same("value(4)", Check.loaded(LOOPS_24).value(4), 73);
    }

    @Says("5 duties that fail")
    static void promise06_dutiesThatFailFromNoneToAll() {
        Check.same("value(5): none", new BackwardProofs().value(5), 0);
        Check.same("value(5): duty 0", Check.loaded("proof true false").value(5), 1);
        BackwardProofs all = Check.loaded("proof true false while eq b 0 keep eq a 0 less 0 set a 1 end");
        Check.same("value(4)", all.value(4), 4);
        Check.same("value(5): all four", all.value(5), 4);
        Check.same("value(5): the third of each of 24 loops", Check.loaded(LOOPS_24).value(5), 24);
    }

    @Says("6 1 if the program is PROVEN, otherwise 0")
    static void promise06_provenIs1Or0() {
        BackwardProofs x = Check.loaded("proof true lt a 3");
        Check.same("value(6)", x.value(6), 0);
        Check.setBefore(x, "eq a 2");
        Check.same("value(6)", x.value(6), 1);
        Check.setBefore(x, "false");
        Check.setAfter(x, "false");
        Check.same("value(6): no state at all", x.value(6), 1);
    }

    @Says("7 changes that can be undone")
    static void promise06_changesThatCanBeUndoneFrom0To10() {
        BackwardProofs x = new BackwardProofs();
        Check.same("value(7)", x.value(7), 0);
        for (int i = 1; i <= 13; i++) {
            x.fill(0, i);
            Check.same("value(7)", x.value(7), Math.min(i, 10));
        }
        x.undo();
        Check.same("value(7)", x.value(7), 9);
    }

    @Says("Returns this number.")
    static void promise06_allOfThemOfANewObject() {
        BackwardProofs x = new BackwardProofs();
        int[] due = {4, 1, 1, 0, 4, 0, 1, 0};
        for (int what = 0; what < 8; what++) {
            Check.same("value(" + what + ")", x.value(what), due[what]);
        }
    }

    @Says("Throws `IllegalArgumentException` if what is out of range")
    static void promise06_whatOutOfRange() {
        BackwardProofs x = new BackwardProofs();
        Check.throwsArgument("value(8)", () -> x.value(8));
        for (int what : FAR) {
            Check.throwsArgument("value(" + what + ")", () -> x.value(what));
        }
    }

    // ---- Promise 7: statement

    private static final String KINDS = AHEAD + "set c 1 if true hole hole else hole end "
            + "while false keep false less 1 set b 2 end hole";

    @Says("0 its kind (0 to 3)")
    static void promise07_allFourKinds() {
        BackwardProofs x = Check.loaded(KINDS);
        int[] due = {0, 1, 3, 3, 3, 2, 0, 3};
        for (int statement = 0; statement < due.length; statement++) {
            Check.same("statement(" + statement + ", 0)", x.statement(statement, 0), due[statement]);
        }
        x.fill(0, 3);
        Check.same("a filled hole stays a hole", x.statement(2, 0), 3);
    }

    @Says("1 the variable of a set, or of a filled hole (NONE otherwise)")
    static void promise07_theVariable() {
        BackwardProofs x = Check.loaded(KINDS);
        int[] due = {2, -1, -1, -1, -1, -1, 1, -1};
        for (int statement = 0; statement < due.length; statement++) {
            Check.same("statement(" + statement + ", 1)", x.statement(statement, 1), due[statement]);
        }
        int[] fillings = {0, 12, 13, 25, 26, 38, -1};
        int[] variables = {0, 0, 1, 1, 2, 2, -1};
        for (int i = 0; i < fillings.length; i++) {
            x.fill(3, fillings[i]);
            Check.same("of the filling " + fillings[i], x.statement(7, 1), variables[i]);
        }
        Check.same("of the set a", Check.loaded(AHEAD + "set a 1").statement(0, 1), 0);
    }

    @Says("2 how many statements it is in")
    static void promise07_theDepthFrom0To23() {
        BackwardProofs x = Check.loaded(KINDS);
        int[] due = {0, 0, 1, 1, 1, 0, 1, 0};
        for (int statement = 0; statement < due.length; statement++) {
            Check.same("statement(" + statement + ", 2)", x.statement(statement, 2), due[statement]);
        }
        BackwardProofs y = Check.loaded(LOOPS_24);
        for (int statement = 0; statement < 24; statement++) {
            Check.same("in one another: statement(" + statement + ", 2)", y.statement(statement, 2), statement);
        }
    }

    @Says("3 statements that stand directly in its first row (0 of a set or hole)")
    static void promise07_theFirstRowFrom0To23() {
        BackwardProofs x = Check.loaded(KINDS);
        int[] due = {0, 2, 0, 0, 0, 1, 0, 0};
        for (int statement = 0; statement < due.length; statement++) {
            Check.same("statement(" + statement + ", 3)", x.statement(statement, 3), due[statement]);
        }
        x.fill(0, 3);
        Check.same("of a filled hole", x.statement(2, 3), 0);
        Check.same("of an if", Check.loaded(AHEAD + "if true " + "hole ".repeat(23) + "else end").statement(0, 3), 23);
        Check.same("of a while", Check.loaded(AHEAD + "while true keep true less 0 " + "hole ".repeat(23) + "end")
                .statement(0, 3), 23);
        Check.same("of empty rows", Check.loaded(AHEAD + "if true else end").statement(0, 3), 0);
    }

    @Says("3 statements that stand directly in its first row")
    static void promise07_thoseInOthersDoNotStandDirectlyInARow() {
        BackwardProofs x = Check.loaded(LOOPS_24);
        Check.same("statement(0, 3)", x.statement(0, 3), 1);
        Check.same("statement(22, 3)", x.statement(22, 3), 1);
        Check.same("statement(23, 3)", x.statement(23, 3), 0);
        BackwardProofs y = Check.loaded(AHEAD + "if true if true hole hole else hole end hole else if true else hole end "
                + "hole end");
        Check.same("statement(0, 3)", y.statement(0, 3), 2);
        Check.same("statement(0, 4)", y.statement(0, 4), 2);
    }

    @Says("4 in its second one (0 if it has none)")
    static void promise07_theSecondRowFrom0To23() {
        BackwardProofs x = Check.loaded(KINDS);
        int[] due = {0, 1, 0, 0, 0, 0, 0, 0};
        for (int statement = 0; statement < due.length; statement++) {
            Check.same("statement(" + statement + ", 4)", x.statement(statement, 4), due[statement]);
        }
        Check.same("of an if", Check.loaded(AHEAD + "if true else " + "hole ".repeat(23) + "end").statement(0, 4), 23);
        Check.same("of an empty row", Check.loaded(AHEAD + "if true hole else end").statement(0, 4), 0);
        Check.same("of a while", Check.loaded(AHEAD + "while true keep true less 0 hole end").statement(0, 4), 0);
    }

    @Says("5 its PRICE")
    static void promise07_thePriceFrom0To99() {
        BackwardProofs x = Check.loaded(KINDS);
        Check.same("at first", x.statement(7, 5), 10);
        x.setPrice(7, 0);
        Check.same("the least", x.statement(7, 5), 0);
        x.setPrice(7, 99);
        Check.same("the greatest", x.statement(7, 5), 99);
        Check.same("of another one", x.statement(6, 5), 10);
    }

    @Says("6 NODEs of its condition, KEEP, LESS, or expression, together (0 of a hole)")
    static void promise07_theNodesFrom0To89() {
        BackwardProofs x = Check.loaded(KINDS);
        int[] due = {1, 1, 0, 0, 0, 3, 1, 0};
        for (int statement = 0; statement < due.length; statement++) {
            Check.same("statement(" + statement + ", 6)", x.statement(statement, 6), due[statement]);
        }
        String nots = "not ".repeat(29) + "true ";
        String sum = "plus a ".repeat(14) + "a ";
        Check.same("of a while", Check.loaded(AHEAD + "while " + nots + "keep " + nots + "less " + sum + "end")
                .statement(0, 6), 30 + 30 + 29);
        Check.same("of an if", Check.loaded(AHEAD + "if " + nots + "hole else hole end").statement(0, 6), 30);
        Check.same("of a set", Check.loaded(AHEAD + "set b " + sum).statement(0, 6), 29);
    }

    @Says("(0 of a hole)")
    static void promise07_aFilledHoleHasNoNodes() {
        BackwardProofs x = Check.loaded(AHEAD + "hole");
        x.fill(0, 7);
        Check.same("statement(0, 6)", x.statement(0, 6), 0);
    }

    @Says("KEEP, LESS, or expression, together")
    static void promise07_theNodesOfAChangedKeepAndLess() {
        BackwardProofs x = new BackwardProofs();
        Check.same("statement(1, 6)", x.statement(1, 6), 3 + 3 + 1);
        Check.setKeep(x, 0, "true");
        Check.same("statement(1, 6)", x.statement(1, 6), 3 + 1 + 1);
        Check.setLess(x, 0, "plus a times b c");
        Check.same("statement(1, 6)", x.statement(1, 6), 3 + 1 + 5);
        x.undo();
        x.undo();
        Check.same("statement(1, 6)", x.statement(1, 6), 3 + 3 + 1);
    }

    @Says("7 the number of its loop or hole (NONE of others)")
    static void promise07_theNumberOfALoopOrHole() {
        BackwardProofs x = Check.loaded(KINDS);
        int[] due = {-1, -1, 0, 1, 2, 0, -1, 3};
        for (int statement = 0; statement < due.length; statement++) {
            Check.same("statement(" + statement + ", 7)", x.statement(statement, 7), due[statement]);
        }
        Check.same("of the 24th loop", Check.loaded(LOOPS_24).statement(23, 7), 23);
        Check.same("of the 24th hole", Check.loaded(AHEAD + "hole ".repeat(24)).statement(23, 7), 23);
    }

    @Says("Returns this value.")
    static void promise07_allOfThemOfANewObject() {
        BackwardProofs x = new BackwardProofs();
        int[][] due = {{0, 1, 0, 0, 0, 10, 1, -1}, {2, -1, 0, 1, 0, 10, 7, 0}, {0, 0, 1, 0, 0, 10, 3, -1},
            {3, -1, 0, 0, 0, 10, 0, 0}};
        for (int statement = 0; statement < 4; statement++) {
            for (int what = 0; what < 8; what++) {
                Check.same("statement(" + statement + ", " + what + ")", x.statement(statement, what),
                        due[statement][what]);
            }
        }
    }

    @Says("Throws `NoSuchElementException` if there is no such statement")
    static void promise07_noSuchStatement() {
        BackwardProofs x = new BackwardProofs();
        Check.same("the last statement", x.statement(3, 0), 3);
        Check.throwsMissing("statement(4, 0)", () -> x.statement(4, 0));
        for (int statement : FAR) {
            Check.throwsMissing("statement(" + statement + ", 0)", () -> x.statement(statement, 0));
        }
        BackwardProofs none = Check.loaded("proof true true");
        Check.throwsMissing("statement(0, 0) of no statements", () -> none.statement(0, 0));
        BackwardProofs all = Check.loaded(LOOPS_24);
        Check.throwsMissing("statement(24, 0)", () -> all.statement(24, 0));
    }

    @Says("Throws `IllegalArgumentException` if what is out of range")
    static void promise07_whatOutOfRange() {
        BackwardProofs x = new BackwardProofs();
        Check.throwsArgument("statement(3, 8)", () -> x.statement(3, 8));
        for (int what : FAR) {
            Check.throwsArgument("statement(0, " + what + ")", () -> x.statement(0, what));
        }
    }

    // ---- Promises 8 and 9: before, after

    @Says("Returns the set of states in which BEFORE holds.")
    static void promise08_noStateOneStateAllStates() {
        BackwardProofs x = Check.loaded("proof false true");
        Check.same("before()", x.before(), 0L);
        Check.setBefore(x, "true");
        Check.same("before()", x.before(), -1L);
        Check.setBefore(x, "and eq a 3 and eq b 3 eq c 3");
        Check.same("before()", x.before(), Long.MIN_VALUE);
        Check.setBefore(x, "and eq a 0 and eq b 0 eq c 0");
        Check.same("before()", x.before(), 1L);
        Check.same("after() stays", x.after(), -1L);
    }

    @Says("Returns the set of states in which AFTER holds.")
    static void promise09_noStateOneStateAllStates() {
        BackwardProofs x = Check.loaded("proof true false");
        Check.same("after()", x.after(), 0L);
        Check.setAfter(x, "true");
        Check.same("after()", x.after(), -1L);
        Check.setAfter(x, "and eq a 3 and eq b 3 eq c 3");
        Check.same("after()", x.after(), Long.MIN_VALUE);
        Check.setAfter(x, "and eq a 0 and eq b 0 eq c 0");
        Check.same("after()", x.after(), 1L);
        Check.same("before() stays", x.before(), -1L);
    }

    // ---- Promise 10: loopSet

    private static final String TWO_LOOPS = AHEAD + "while false keep true less a while eq b 3 keep eq c 3 less minus b a "
            + "end end";

    @Says("0 its condition, 1 its KEEP")
    static void promise10_conditionAndKeepOfEachLoop() {
        BackwardProofs x = Check.loaded(TWO_LOOPS);
        Check.same("loopSet(0, 0)", x.loopSet(0, 0), 0L);
        Check.same("loopSet(0, 1)", x.loopSet(0, 1), -1L);
        Check.same("loopSet(1, 0)", x.loopSet(1, 0), Check.states(s -> Check.b(s) == 3));
        Check.same("loopSet(1, 1)", x.loopSet(1, 1), Check.states(s -> Check.c(s) == 3));
    }

    @Says("Returns the set of states in which this holds.")
    static void promise10_aChangedKeep() {
        BackwardProofs x = Check.loaded(TWO_LOOPS);
        Check.setKeep(x, 1, "false");
        Check.same("loopSet(1, 1)", x.loopSet(1, 1), 0L);
        Check.same("loopSet(1, 0) stays", x.loopSet(1, 0), Check.states(s -> Check.b(s) == 3));
        Check.same("loopSet(0, 1) stays", x.loopSet(0, 1), -1L);
    }

    @Says("Returns the set of states in which this holds.")
    static void promise10_theLastOf24Loops() {
        BackwardProofs x = Check.loaded(LOOPS_24);
        Check.setKeep(x, 23, "lt a 1");
        Check.same("loopSet(23, 1)", x.loopSet(23, 1), Check.states(s -> Check.a(s) == 0));
        Check.same("loopSet(22, 1)", x.loopSet(22, 1), -1L);
        Check.same("loopSet(23, 0)", x.loopSet(23, 0), -1L);
    }

    @Says("Throws `NoSuchElementException` if there is no such loop")
    static void promise10_noSuchLoop() {
        BackwardProofs x = Check.loaded(TWO_LOOPS);
        Check.throwsMissing("loopSet(2, 0)", () -> x.loopSet(2, 0));
        for (int loop : FAR) {
            Check.throwsMissing("loopSet(" + loop + ", 0)", () -> x.loopSet(loop, 0));
        }
        BackwardProofs none = Check.loaded(AHEAD + "hole");
        Check.throwsMissing("loopSet(0, 0) of no loops", () -> none.loopSet(0, 0));
        BackwardProofs all = Check.loaded(LOOPS_24);
        Check.throwsMissing("loopSet(24, 0)", () -> all.loopSet(24, 0));
    }

    @Says("Throws `IllegalArgumentException` if what is out of range")
    static void promise10_whatOutOfRange() {
        BackwardProofs x = Check.loaded(TWO_LOOPS);
        Check.throwsArgument("loopSet(1, 2)", () -> x.loopSet(1, 2));
        for (int what : FAR) {
            Check.throwsArgument("loopSet(0, " + what + ")", () -> x.loopSet(0, what));
        }
    }

    // ---- Promise 11: less

    @Says("0 to 63")
    static void promise11_theLeastAndTheGreatestState() {
        BackwardProofs x = Check.loaded(AHEAD + "while true keep true less plus a plus b c end");
        Check.same("less(0, 0)", x.less(0, 0), 0);
        Check.same("less(0, 63): 9 modulo 4", x.less(0, 63), 1);
    }

    @Says("Returns the value of its LESS.")
    static void promise11_theValuesFrom0To3OfEachLoop() {
        BackwardProofs x = Check.loaded(TWO_LOOPS);
        for (int state = 0; state < 64; state++) {
            Check.same("less(0, " + state + ")", x.less(0, state), state % 4);
            Check.same("less(1, " + state + ")", x.less(1, state), (Check.b(state) + 4 - Check.a(state)) % 4);
        }
    }

    @Says("Returns the value of its LESS.")
    static void promise11_statesOutOfKeepHaveAValueToo() {
        BackwardProofs x = Check.loaded(AHEAD + "while false keep false less 3 end");
        Check.same("less(0, 0)", x.less(0, 0), 3);
    }

    @Says("Throws `NoSuchElementException` if there is no such loop")
    static void promise11_noSuchLoop() {
        BackwardProofs x = Check.loaded(TWO_LOOPS);
        Check.throwsMissing("less(2, 0)", () -> x.less(2, 0));
        for (int loop : FAR) {
            Check.throwsMissing("less(" + loop + ", 0)", () -> x.less(loop, 0));
        }
        BackwardProofs none = Check.loaded(AHEAD + "hole");
        Check.throwsMissing("less(0, 0) of no loops", () -> none.less(0, 0));
        BackwardProofs all = Check.loaded(LOOPS_24);
        Check.throwsMissing("less(24, 0)", () -> all.less(24, 0));
        Check.same("less(23, 62)", all.less(23, 62), 2);
    }

    @Says("Throws `IllegalArgumentException` if state is out of range")
    static void promise11_stateOutOfRange() {
        BackwardProofs x = Check.loaded(TWO_LOOPS);
        Check.throwsArgument("less(1, 64)", () -> x.less(1, 64));
        for (int state : FAR) {
            Check.throwsArgument("less(0, " + state + ")", () -> x.less(0, state));
        }
    }
}
