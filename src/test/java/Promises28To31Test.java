/** Promises 28 to 31, what would be: a case for each boundary that their sentences name. */
public final class Promises28To31Test {
    private static final String AHEAD = "proof true true ";
    private static final String DOWN = "set a minus a 1 ";
    private static final String STATE_63 = "and eq a 3 and eq b 3 eq c 3";
    private static final int[] FAR = {-1, 24, Integer.MIN_VALUE, Integer.MAX_VALUE};

    private Promises28To31Test() {
    }

    public static void main(String[] args) {
        Cases.run(Promises28To31Test.class);
    }

    // ---- Promise 28: proves

    private static void proves(String text, int due) {
        Check.same("proves(0) of " + text, Check.loaded(text).proves(0), due);
    }

    @Says("Returns the least FILLING with which the program would be PROVEN")
    static void promise28_theLeastFillingIs0() {
        proves("proof true true hole", 0);
        proves("proof true eq a 0 hole", 0);
        proves("proof false false hole", 0);
    }

    @Says("Returns the least FILLING with which the program would be PROVEN")
    static void promise28_theGreatestFillingIs38() {
        proves("proof and eq a plus c 1 eq b plus c 1 and eq a plus c 2 eq b plus c 2 hole", 38);
    }

    @Says("Returns the least FILLING")
    static void promise28_ofSeveralTheLeast() {
        // a 2 and c 3 would do as well
        proves("proof eq a 2 or eq b 1 or eq a 2 eq c 3 hole", 2);
        proves("proof true or eq b 1 eq c 3 hole", 14);
        // what leaves all as it is comes behind the values of a
        proves("proof eq a plus b c eq a plus b c hole", 4);
    }

    @Says("with which the program would be PROVEN")
    static void promise28_eachFormOfEachVariableIsTried() {
        // from only one state, behind which only one filling leads to what is asked
        for (int filling = 0; filling < 39; filling++) {
            int v = filling / 13;
            BackwardProofs x = Check.loaded(AHEAD + "hole");
            for (int state = 0; state < 64; state++) {
                x.fill(0, filling);
                int end = x.run(state);
                int least = leastOf(state, end);
                if (state % 9 == v) {
                    Check.setBefore(x, only(state));
                    Check.setAfter(x, only(end));
                    Check.same("proves(0) from " + state + " to " + end, x.proves(0), least);
                }
            }
        }
    }

    private static String only(int state) {
        return "and eq a " + Check.a(state) + " and eq b " + Check.b(state) + " eq c " + Check.c(state);
    }

    /** The least filling that leads from one state to the other one. */
    private static int leastOf(int from, int to) {
        int[] weights = {1, 4, 16};
        int[] values = {Check.a(from), Check.b(from), Check.c(from)};
        for (int filling = 0; filling < 39; filling++) {
            int v = filling / 13;
            int f = filling % 13;
            int value = f < 4 ? f : f < 7 ? values[f - 4] : f < 10 ? (values[f - 7] + 1) % 4 : (values[f - 10] + 3) % 4;
            if (from + weights[v] * (value - values[v]) == to) {
                return filling;
            }
        }
        return -1;
    }

    @Says("(other holes as they are);")
    static void promise28_otherHolesThatAreNotFilledStayOpen() {
        proves("proof true and eq a 1 eq b 2 hole hole", -1);
    }

    @Says("(other holes as they are);")
    static void promise28_otherHolesThatAreFilledStayFilled() {
        BackwardProofs x = Check.loaded("proof true and eq a 1 eq b 2 hole hole");
        x.fill(1, 15);
        Check.same("proves(0)", x.proves(0), 1);
        Check.same("proves(1): its own filling does not count", x.proves(1), -1);
        Check.same("value(3)", x.value(3), 1);
    }

    @Says("(other holes as they are);")
    static void promise28_theLastOf24Holes() {
        BackwardProofs x = Check.loaded("proof true eq c 3 " + "hole ".repeat(24));
        Check.same("proves(23)", x.proves(23), 29);
        Check.same("proves(0)", x.proves(0), 29);
        x.fill(23, 26);
        Check.same("proves(0): the last one sets c 0", x.proves(0), -1);
    }

    @Says("NONE if there is none.")
    static void promise28_noFillingProves() {
        proves("proof true false hole", -1);
        proves("proof true and eq a 0 eq b 0 hole", -1);
        // all runs are right, but LESS never becomes less
        proves("proof true true hole while lt 0 a keep true less b " + DOWN + "end", -1);
    }

    @Says("Returns the least FILLING with which the program would be PROVEN")
    static void promise28_nothingChanges() {
        BackwardProofs x = Check.loaded("proof true and eq a 1 eq b 2 hole while lt 0 c keep true less c hole end");
        x.fill(0, 5);
        String picture = Check.picture(x);
        x.proves(0);
        Check.same("the filling of its own", x.statement(0, 1), 0);
        x.proves(1);
        Check.same("not filled", x.statement(2, 1), -1);
        Check.sameText("the picture", Check.picture(x), picture);
        Check.same("value(7)", x.value(7), 1);
        Check.same("undo()", x.undo(), 0);
        Check.same("not filled any more", x.value(3), 0);
    }

    @Says("Throws `NoSuchElementException` if there is no such hole")
    static void promise28_noSuchHole() {
        BackwardProofs x = new BackwardProofs();
        Check.throwsMissing("proves(1)", () -> x.proves(1));
        for (int hole : FAR) {
            Check.throwsMissing("proves(" + hole + ")", () -> x.proves(hole));
        }
        BackwardProofs none = Check.loaded(AHEAD + "set a 1");
        Check.throwsMissing("proves(0) of no holes", () -> none.proves(0));
    }

    // ---- Promise 29: rights

    private static void rights(String text, int due) {
        Check.same("rights(0) of " + text, Check.loaded(text).rights(0), due);
    }

    @Says("Returns the least FILLING with which wrong() would be empty")
    static void promise29_theLeastFillingIs0() {
        rights("proof true true hole", 0);
        rights("proof true eq a 0 hole", 0);
        rights("proof false false hole", 0);
    }

    @Says("Returns the least FILLING with which wrong() would be empty")
    static void promise29_theGreatestFillingIs38() {
        rights("proof and eq a plus c 1 eq b plus c 1 and eq a plus c 2 eq b plus c 2 hole", 38);
    }

    @Says("with which wrong() would be empty")
    static void promise29_keepAndLessDoNotMatter() {
        String text = "proof true eq a 0 hole while lt 0 a keep false less 3 " + DOWN + "end";
        rights(text, 0);
        proves(text, -1);
    }

    @Says("with which wrong() would be empty")
    static void promise29_runsThatDoNotEndAreWrong() {
        rights("proof true true while eq a 0 keep true less 0 hole end", 1);
        rights("proof eq b 2 true while lt b 3 keep true less 0 hole end", 16);
    }

    @Says("(other holes as they are);")
    static void promise29_otherHolesStayAsTheyAre() {
        BackwardProofs x = Check.loaded("proof true and eq a 1 eq b 2 hole hole");
        Check.same("rights(0)", x.rights(0), -1);
        x.fill(1, 15);
        Check.same("rights(0)", x.rights(0), 1);
        Check.same("rights(1): its own filling does not count", x.rights(1), -1);
    }

    @Says("NONE if there is none.")
    static void promise29_noFillingIsRight() {
        rights("proof true false hole", -1);
        rights("proof true and eq a 0 eq b 0 hole", -1);
        rights("proof true true hole while true keep true less 0 end", -1);
    }

    @Says("Returns the least FILLING with which wrong() would be empty")
    static void promise29_nothingChanges() {
        BackwardProofs x = Check.loaded("proof true and eq a 1 eq b 2 hole while lt 0 c keep true less c hole end");
        x.fill(1, 38);
        String picture = Check.picture(x);
        x.rights(0);
        x.rights(1);
        Check.sameText("the picture", Check.picture(x), picture);
        Check.same("value(7)", x.value(7), 1);
    }

    @Says("Throws `NoSuchElementException` if there is no such hole")
    static void promise29_noSuchHole() {
        BackwardProofs x = new BackwardProofs();
        Check.throwsMissing("rights(1)", () -> x.rights(1));
        for (int hole : FAR) {
            Check.throwsMissing("rights(" + hole + ")", () -> x.rights(hole));
        }
        BackwardProofs none = Check.loaded(AHEAD + "set a 1");
        Check.throwsMissing("rights(0) of no holes", () -> none.rights(0));
    }

    // ---- Promise 30: safe

    private static final String SAFE = "Returns the set of states from which a run of this loop alone ends, in a state of the "
            + "NEED behind it.";

    @Says(SAFE)
    static void promise30_noStateOneStateAllStates() {
        BackwardProofs x = Check.loaded("proof true false while lt 0 a keep true less a " + DOWN + "end");
        Check.same("safe(0)", x.safe(0), 0L);
        Check.setAfter(x, "true");
        Check.same("safe(0)", x.safe(0), -1L);
        BackwardProofs y = Check.loaded("proof true " + STATE_63 + " while false keep true less 0 end");
        Check.same("safe(0)", y.safe(0), Long.MIN_VALUE);
    }

    @Says("from which a run of this loop alone ends")
    static void promise30_runsThatDoNotEndAreNotSafe() {
        BackwardProofs x = Check.loaded(AHEAD + "while lt a 3 keep true less 0 if eq a 1 else set a plus a 1 end end");
        Check.same("safe(0)", x.safe(0), Check.states(s -> Check.a(s) > 1));
        Check.same("safe(0) of an empty row",
                Check.loaded(AHEAD + "while eq b 0 keep true less 0 end").safe(0), Check.states(s -> Check.b(s) != 0));
    }

    @Says("of this loop alone")
    static void promise30_whatStandsAheadAndBehindIsNotDone() {
        // the last loop never ends with b 2, but what is behind the first one is only its KEEP
        BackwardProofs x = Check.loaded("proof true true set a 3 while lt 0 a keep true less a " + DOWN
                + "end while eq b 2 keep lt b 3 less 0 end");
        Check.same("safe(0)", x.safe(0), Check.states(s -> Check.b(s) < 3));
        Check.same("safe(1)", x.safe(1), Check.states(s -> Check.b(s) != 2));
    }

    @Says("of this loop alone")
    static void promise30_anInnerLoopAlone() {
        BackwardProofs x = Check.loaded("proof false true while true keep eq b 3 less 0 "
                + "while lt b 3 keep false less 0 set b plus b 1 end end");
        Check.same("safe(1)", x.safe(1), -1L);
        Check.same("safe(0): the outer one does not end", x.safe(0), 0L);
    }

    @Says("in a state of the NEED behind it.")
    static void promise30_theStateThatTheRunBeginsInIsTold() {
        BackwardProofs x = Check.loaded("proof true eq a 0 while lt 0 b keep true less b set b minus b 1 set a plus a 1 end");
        Check.same("safe(0)", x.safe(0), Check.states(s -> (Check.a(s) + Check.b(s)) % 4 == 0));
    }

    @Says("Throws `NoSuchElementException` if there is no such loop")
    static void promise30_noSuchLoop() {
        BackwardProofs x = new BackwardProofs();
        Check.throwsMissing("safe(1)", () -> x.safe(1));
        for (int loop : FAR) {
            Check.throwsMissing("safe(" + loop + ")", () -> x.safe(loop));
        }
        BackwardProofs none = Check.loaded(AHEAD + "hole");
        Check.throwsMissing("safe(0) of no loops", () -> none.safe(0));
    }

    // ---- Promise 31: unsafe

    @Says("Returns the set of states in KEEP that are not in safe().")
    static void promise31_noStateOneStateAllStates() {
        BackwardProofs x = Check.loaded("proof true false while false keep true less 0 end");
        Check.same("unsafe(0) of a full KEEP", x.unsafe(0), -1L);
        Check.setKeep(x, 0, STATE_63);
        Check.same("unsafe(0)", x.unsafe(0), Long.MIN_VALUE);
        Check.setKeep(x, 0, "false");
        Check.same("unsafe(0) of an empty KEEP", x.unsafe(0), 0L);
        Check.setKeep(x, 0, "true");
        Check.setAfter(x, "true");
        Check.same("unsafe(0) if all are safe", x.unsafe(0), 0L);
    }

    @Says("that are not in safe().")
    static void promise31_statesOutOfKeepAreInNeither() {
        BackwardProofs x = Check.loaded("proof true eq b 0 while lt 0 a keep lt c 2 less a " + DOWN + "end");
        Check.same("unsafe(0)", x.unsafe(0), Check.states(s -> Check.c(s) < 2 && Check.b(s) != 0));
        Check.same("safe(0)", x.safe(0), Check.states(s -> Check.b(s) == 0));
    }

    @Says("Throws `NoSuchElementException` if there is no such loop")
    static void promise31_noSuchLoop() {
        BackwardProofs x = new BackwardProofs();
        Check.throwsMissing("unsafe(1)", () -> x.unsafe(1));
        for (int loop : FAR) {
            Check.throwsMissing("unsafe(" + loop + ")", () -> x.unsafe(loop));
        }
        BackwardProofs none = Check.loaded(AHEAD + "hole");
        Check.throwsMissing("unsafe(0) of no loops", () -> none.unsafe(0));
    }
}
