/** Promises 12 to 16, needs and duties: a case for each boundary that their sentences name. */
public final class Promises12To16Test {
    private static final String AHEAD = "proof true true ";
    private static final String LOOPS_24 = AHEAD + "while true keep true less a ".repeat(24) + "end ".repeat(24);
    private static final int[] FAR = {-1, Integer.MIN_VALUE, Integer.MAX_VALUE};

    private Promises12To16Test() {
    }

    public static void main(String[] args) {
        Cases.run(Promises12To16Test.class);
    }

    // ---- Promise 12: need

    @Says("Returns the NEED ahead of it.")
    static void promise12_theNeedOfEachStatementOfANewObject() {
        BackwardProofs x = new BackwardProofs();
        Check.same("need(3): the hole", x.need(3), Check.states(s -> Check.a(s) == 0 && Check.b(s) == 2));
        Check.same("need(2): ahead of set a minus a 1", x.need(2), Check.states(s -> Check.b(s) == 2));
        Check.same("need(1): KEEP", x.need(1), Check.states(s -> Check.b(s) == 2));
        Check.same("need(0): ahead of set b 2", x.need(0), -1L);
    }

    @Says("Returns the NEED ahead of it.")
    static void promise12_theNeedIsThatAheadAndNotThatBehind() {
        BackwardProofs x = Check.loaded("proof true eq a 2 set a plus a 1");
        Check.same("need(0)", x.need(0), Check.states(s -> Check.a(s) == 1));
    }

    @Says("Returns the NEED ahead of it.")
    static void promise12_noStateOneStateAllStates() {
        BackwardProofs x = Check.loaded("proof true false hole");
        Check.same("need(0)", x.need(0), 0L);
        Check.setAfter(x, "and eq a 3 and eq b 3 eq c 3");
        Check.same("need(0)", x.need(0), Long.MIN_VALUE);
        Check.setAfter(x, "true");
        Check.same("need(0)", x.need(0), -1L);
    }

    @Says("Returns the NEED ahead of it.")
    static void promise12_theNeedThroughAll24Statements() {
        BackwardProofs x = Check.loaded("proof true eq a 0 " + "set a plus a 1 ".repeat(23) + "hole");
        // 23 rounds of plus 1 are minus 1
        Check.same("need(0)", x.need(0), Check.states(s -> Check.a(s) == 1));
        Check.same("need(22)", x.need(22), Check.states(s -> Check.a(s) == 3));
        Check.same("need(23)", x.need(23), Check.states(s -> Check.a(s) == 0));
    }

    @Says("Throws `NoSuchElementException` if there is no such statement")
    static void promise12_noSuchStatement() {
        BackwardProofs x = new BackwardProofs();
        Check.throwsMissing("need(4)", () -> x.need(4));
        for (int statement : FAR) {
            Check.throwsMissing("need(" + statement + ")", () -> x.need(statement));
        }
        BackwardProofs none = Check.loaded("proof true true");
        Check.throwsMissing("need(0) of no statements", () -> none.need(0));
        BackwardProofs all = Check.loaded(LOOPS_24);
        Check.throwsMissing("need(24)", () -> all.need(24));
        Check.same("need(23)", all.need(23), -1L);
    }

    // ---- Promise 13: needAhead

    @Says("Returns the NEED ahead of the program.")
    static void promise13_withoutStatementsItIsAfter() {
        BackwardProofs x = Check.loaded("proof true lt b 2");
        Check.same("needAhead()", x.needAhead(), Check.states(s -> Check.b(s) < 2));
        Check.setAfter(x, "false");
        Check.same("needAhead()", x.needAhead(), 0L);
        Check.setAfter(x, "true");
        Check.same("needAhead()", x.needAhead(), -1L);
    }

    @Says("Returns the NEED ahead of the program.")
    static void promise13_itIsTheNeedAheadOfTheFirstStatement() {
        Check.same("a set", Check.loaded("proof true eq a 0 set a b hole").needAhead(), Check.states(s -> Check.b(s) == 0));
        Check.same("an if", Check.loaded("proof true eq a 0 if eq b 1 set a 0 else end").needAhead(),
                Check.states(s -> Check.b(s) == 1 || Check.a(s) == 0));
        Check.same("a while", Check.loaded("proof true false while true keep eq c 3 less 0 end").needAhead(),
                Check.states(s -> Check.c(s) == 3));
    }

    @Says("Returns the NEED ahead of the program.")
    static void promise13_beforeDoesNotMatter() {
        BackwardProofs x = Check.loaded("proof false eq a 0 hole");
        Check.same("needAhead()", x.needAhead(), Check.states(s -> Check.a(s) == 0));
    }

    // ---- Promise 14: duty

    @Says("0 its kind")
    static void promise14_theKindsFrom0To3() {
        BackwardProofs x = Check.loaded(LOOPS_24);
        Check.same("duty(0, 0)", x.duty(0, 0), 0);
        for (int duty = 1; duty < 73; duty++) {
            Check.same("duty(" + duty + ", 0)", x.duty(duty, 0), (duty - 1) % 3 + 1);
        }
    }

    @Says("1 its statement (NONE of duty 0)")
    static void promise14_theStatementOfEachDuty() {
        BackwardProofs x = Check.loaded(LOOPS_24);
        Check.same("duty(0, 1)", x.duty(0, 1), -1);
        for (int duty = 1; duty < 73; duty++) {
            Check.same("duty(" + duty + ", 1)", x.duty(duty, 1), (duty - 1) / 3);
        }
        BackwardProofs y = Check.loaded(AHEAD + "hole hole while true keep true less 0 end");
        Check.same("the statement, not the loop", y.duty(3, 1), 2);
    }

    @Says("2 for how many states it fails")
    static void promise14_howManyStatesFrom0To64() {
        BackwardProofs x = Check.loaded("proof false false");
        Check.same("duty(0, 2)", x.duty(0, 2), 0);
        Check.setBefore(x, "and eq a 3 and eq b 3 eq c 3");
        Check.same("duty(0, 2)", x.duty(0, 2), 1);
        Check.setBefore(x, "not and eq a 3 and eq b 3 eq c 3");
        Check.same("duty(0, 2)", x.duty(0, 2), 63);
        Check.setBefore(x, "true");
        Check.same("duty(0, 2)", x.duty(0, 2), 64);
    }

    @Says("3 the least of these (NONE if it does not fail)")
    static void promise14_theLeastStateFrom0To63() {
        BackwardProofs x = Check.loaded("proof false false");
        Check.same("duty(0, 3): it does not fail", x.duty(0, 3), -1);
        Check.setBefore(x, "true");
        Check.same("duty(0, 3)", x.duty(0, 3), 0);
        Check.setBefore(x, "or eq c 3 and eq a 2 eq b 1");
        Check.same("duty(0, 3)", x.duty(0, 3), 6);
        Check.setBefore(x, "and eq a 3 and eq b 3 eq c 3");
        Check.same("duty(0, 3)", x.duty(0, 3), 63);
        Check.setBefore(x, "and lt 1 c and eq a 0 eq b 0");
        Check.same("duty(0, 3)", x.duty(0, 3), 32);
    }

    @Says("Returns this value.")
    static void promise14_theDutiesOfALoopEachOnItsOwn() {
        BackwardProofs x = Check.loaded("proof eq a 3 eq b 0 while lt 0 c keep lt a 2 less c set a plus a 1 end");
        int[] howMany = {16, 12, 6, 24};
        int[] least = {3, 17, 4, 16};
        for (int duty = 0; duty < 4; duty++) {
            Check.same("duty(" + duty + ", 2)", x.duty(duty, 2), howMany[duty]);
            Check.same("duty(" + duty + ", 3)", x.duty(duty, 3), least[duty]);
        }
    }

    @Says("Throws `NoSuchElementException` if there is no such duty")
    static void promise14_noSuchDuty() {
        BackwardProofs x = new BackwardProofs();
        Check.same("the last duty", x.duty(3, 0), 3);
        Check.throwsMissing("duty(4, 0)", () -> x.duty(4, 0));
        for (int duty : FAR) {
            Check.throwsMissing("duty(" + duty + ", 0)", () -> x.duty(duty, 0));
        }
        BackwardProofs none = Check.loaded(AHEAD + "hole");
        Check.throwsMissing("duty(1, 0) of no loops", () -> none.duty(1, 0));
        BackwardProofs all = Check.loaded(LOOPS_24);
        Check.throwsMissing("duty(73, 0)", () -> all.duty(73, 0));
    }

    @Says("Throws `IllegalArgumentException` if what is out of range")
    static void promise14_whatOutOfRange() {
        BackwardProofs x = new BackwardProofs();
        Check.throwsArgument("duty(0, 4)", () -> x.duty(0, 4));
        Check.throwsArgument("duty(3, 4)", () -> x.duty(3, 4));
        for (int what : FAR) {
            Check.throwsArgument("duty(0, " + what + ")", () -> x.duty(0, what));
        }
    }

    // ---- Promise 15: failing

    @Says("Returns the set of states for which it fails.")
    static void promise15_noStateOneStateAllStates() {
        BackwardProofs x = Check.loaded("proof false false");
        Check.same("failing(0)", x.failing(0), 0L);
        Check.setBefore(x, "and eq a 3 and eq b 3 eq c 3");
        Check.same("failing(0)", x.failing(0), Long.MIN_VALUE);
        Check.setBefore(x, "true");
        Check.same("failing(0)", x.failing(0), -1L);
    }

    @Says("Returns the set of states for which it fails.")
    static void promise15_theDutiesOfALoopEachOnItsOwn() {
        BackwardProofs x = Check.loaded("proof eq a 3 eq b 0 while lt 0 c keep lt a 2 less c set a plus a 1 end");
        Check.same("failing(0)", x.failing(0), Check.states(s -> Check.a(s) == 3));
        Check.same("failing(1)", x.failing(1), Check.states(s -> Check.a(s) == 1 && Check.c(s) > 0));
        Check.same("failing(2)", x.failing(2), Check.states(s -> Check.a(s) < 2 && Check.c(s) == 0 && Check.b(s) != 0));
        Check.same("failing(3)", x.failing(3), Check.states(s -> Check.a(s) < 2 && Check.c(s) > 0));
    }

    @Says("Throws `NoSuchElementException` if there is no such duty")
    static void promise15_noSuchDuty() {
        BackwardProofs x = new BackwardProofs();
        Check.same("the last duty", x.failing(3), 0L);
        Check.throwsMissing("failing(4)", () -> x.failing(4));
        for (int duty : FAR) {
            Check.throwsMissing("failing(" + duty + ")", () -> x.failing(duty));
        }
        BackwardProofs none = Check.loaded(AHEAD + "hole");
        Check.throwsMissing("failing(1) of no loops", () -> none.failing(1));
        BackwardProofs all = Check.loaded(LOOPS_24);
        Check.same("failing(72)", all.failing(72), -1L);
        Check.throwsMissing("failing(73)", () -> all.failing(73));
    }

    // ---- Promise 16: trouble

    @Says("Returns the first duty that fails;")
    static void promise16_theFirstOfSeveral() {
        BackwardProofs x = Check.loaded("proof true false while eq b 0 keep eq a 0 less 0 set a 1 end");
        Check.same("trouble(): all fail", x.trouble(), 0);
        Check.setBefore(x, "eq a 0");
        Check.same("trouble(): all but duty 0", x.trouble(), 1);
        Check.setKeep(x, 0, "true");
        Check.same("trouble(): the last two", x.trouble(), 2);
        Check.setAfter(x, "true");
        Check.same("trouble(): the last one", x.trouble(), 3);
    }

    @Says("Returns the first duty that fails;")
    static void promise16_theLastOf73Duties() {
        BackwardProofs x = Check.loaded(LOOPS_24);
        for (int loop = 0; loop < 22; loop++) {
            Check.setKeep(x, loop, "false");
        }
        Check.setBefore(x, "false");
        Check.same("trouble()", x.trouble(), 3 * 22 + 3);
        Check.setKeep(x, 22, "false");
        Check.same("trouble()", x.trouble(), 72);
        Check.setKeep(x, 23, "false");
        Check.same("trouble()", x.trouble(), -1);
    }

    @Says("NONE if none does.")
    static void promise16_noneFails() {
        Check.same("trouble() of a new object", new BackwardProofs().trouble(), -1);
        Check.same("trouble() without statements", Check.loaded("proof false false").trouble(), -1);
    }
}
