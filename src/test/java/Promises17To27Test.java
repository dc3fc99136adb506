/** Promises 17 to 27, runs: a case for each boundary that their sentences name. */
public final class Promises17To27Test {
    private static final String AHEAD = "proof true true ";
    private static final String DOWN = "while lt 0 a keep true less a set a minus a 1 end ";
    private static final String ENDLESS = "while eq b 1 keep true less 0 end ";
    private static final String COUNT_UP = "if eq a 3 if eq b 3 set c plus c 1 else end set b plus b 1 else end "
            + "set a plus a 1 ";
    private static final String ALL_STATES = "while not and eq a 3 and eq b 3 eq c 3 keep true less 0 " + COUNT_UP + "end ";
    private static final String STATE_0 = "and eq a 0 and eq b 0 eq c 0";
    private static final String STATE_63 = "and eq a 3 and eq b 3 eq c 3";
    private static final int[] OUT_OF_RANGE = {-1, 64, Integer.MIN_VALUE, Integer.MAX_VALUE};
    private static final int[] FAR = {-1, 24, Integer.MIN_VALUE, Integer.MAX_VALUE};

    private Promises17To27Test() {
    }

    public static void main(String[] args) {
        Cases.run(Promises17To27Test.class);
    }

    // ---- Promise 17: run

    @Says("0 to 63")
    static void promise17_theLeastAndTheGreatestState() {
        BackwardProofs x = Check.loaded(AHEAD + "set a plus a 1");
        Check.same("run(0)", x.run(0), 1);
        Check.same("run(63)", x.run(63), 60);
    }

    @Says("Returns the state in which a run from it ends;")
    static void promise17_endsFrom0To63() {
        BackwardProofs x = Check.loaded(AHEAD + "set a minus 3 a set b minus 3 b set c minus 3 c");
        for (int state = 0; state < 64; state++) {
            Check.same("run(" + state + ")", x.run(state), 63 - state);
        }
    }

    @Says("Returns the state in which a run from it ends;")
    static void promise17_withoutStatementsItEndsWhereItBegins() {
        BackwardProofs x = Check.loaded("proof false false");
        Check.same("run(0)", x.run(0), 0);
        Check.same("run(63)", x.run(63), 63);
    }

    @Says("Returns the state in which a run from it ends;")
    static void promise17_beforeDoesNotMatter() {
        Check.same("run(5)", Check.loaded("proof false true set a 3").run(5), 7);
    }

    @Says("NONE if it does not end.")
    static void promise17_aRunThatDoesNotEnd() {
        BackwardProofs x = Check.loaded(AHEAD + "hole " + ENDLESS + "hole");
        for (int state = 0; state < 64; state++) {
            Check.same("run(" + state + ")", x.run(state), Check.b(state) == 1 ? -1 : state);
        }
    }

    @Says("NONE if it does not end.")
    static void promise17_aRunThatDoesNotEndFarInside() {
        BackwardProofs x = Check.loaded(AHEAD + "if eq a 0 while lt a 1 keep true less 0 if true while true keep true "
                + "less 0 end else end end else set a 0 end set b 3");
        Check.same("run(0)", x.run(0), -1);
        Check.same("run(1)", x.run(1), 12);
    }

    @Says("Throws `IllegalArgumentException` if state is out of range")
    static void promise17_stateOutOfRange() {
        BackwardProofs x = new BackwardProofs();
        for (int state : OUT_OF_RANGE) {
            Check.throwsArgument("run(" + state + ")", () -> x.run(state));
        }
    }

    // ---- Promise 18: steps

    @Says("0 to 63")
    static void promise18_theLeastAndTheGreatestState() {
        BackwardProofs x = Check.loaded(AHEAD + DOWN);
        Check.same("steps(0)", x.steps(0), 1);
        Check.same("steps(63)", x.steps(63), 7);
    }

    @Says("Returns STEPs of this run;")
    static void promise18_noStepWithoutStatements() {
        Check.same("steps(7)", Check.loaded("proof true true").steps(7), 0);
    }

    @Says("Returns STEPs of this run;")
    static void promise18_24StepsOf24Statements() {
        Check.same("steps(7)", Check.loaded(AHEAD + "hole ".repeat(24)).steps(7), 24);
        Check.same("steps(7)", Check.loaded(AHEAD + "if true ".repeat(24) + "else end ".repeat(24)).steps(7), 24);
        Check.same("steps(7)", Check.loaded(AHEAD + "if false ".repeat(24) + "else end ".repeat(24)).steps(7), 1);
    }

    @Says("Returns STEPs of this run;")
    static void promise18_veryManySteps() {
        // 63 rounds with 17 more holes in each
        BackwardProofs x = Check.loaded(AHEAD + "while not and eq a 3 and eq b 3 eq c 3 keep true less 0 "
                + "hole ".repeat(17) + COUNT_UP + "end ");
        Check.same("steps(0)", x.steps(0), 64 + 63 * (17 + 2) + 15 * 2 + 3);
        Check.same("steps(63)", x.steps(63), 1);
        Check.same("steps(62)", x.steps(62), 1 + 17 + 2 + 1);
    }

    @Says("NONE if it does not end.")
    static void promise18_aRunThatDoesNotEnd() {
        BackwardProofs x = Check.loaded(AHEAD + "hole " + ENDLESS);
        Check.same("steps(4)", x.steps(4), -1);
        Check.same("steps(8)", x.steps(8), 2);
    }

    @Says("Throws `IllegalArgumentException` if state is out of range")
    static void promise18_stateOutOfRange() {
        BackwardProofs x = new BackwardProofs();
        for (int state : OUT_OF_RANGE) {
            Check.throwsArgument("steps(" + state + ")", () -> x.steps(state));
        }
    }

    // ---- Promise 19: cost

    @Says("0 to 63")
    static void promise19_theLeastAndTheGreatestState() {
        BackwardProofs x = Check.loaded(AHEAD + DOWN);
        Check.sameFloat("cost(0)", x.cost(0), 1.0f);
        Check.sameFloat("cost(63)", x.cost(63), 7.0f);
    }

    @Says("Returns COST of this run;")
    static void promise19_noCostWithoutStepsOrPrices() {
        Check.sameFloat("cost(0) without statements", Check.loaded("proof true true").cost(0), 0.0f);
        BackwardProofs x = Check.loaded(AHEAD + "hole hole");
        x.setPrice(0, 0);
        x.setPrice(1, 0);
        Check.sameFloat("cost(0) without prices", x.cost(0), 0.0f);
    }

    @Says("Returns COST of this run;")
    static void promise19_theGreatestPriceInEachOf24Steps() {
        BackwardProofs x = Check.loaded(AHEAD + "hole ".repeat(24));
        float due = 0.0f;
        for (int statement = 0; statement < 24; statement++) {
            x.setPrice(statement, 99);
            due = due + 99.0f / 10.0f;
        }
        Check.sameFloat("cost(0)", x.cost(0), due);
    }

    @Says("Returns COST of this run;")
    static void promise19_theCostOfVeryManySteps() {
        BackwardProofs x = Check.loaded(AHEAD + ALL_STATES);
        x.setPrice(0, 99);
        x.setPrice(5, 3);
        float due = 0.0f;
        for (int state = 0; state < 63; state++) {
            // the while, the outer if, the inner one and its set, set b, set a
            due = due + 99.0f / 10.0f;
            due = due + 1.0f;
            if (Check.a(state) == 3) {
                due = due + 1.0f;
                due = due + (Check.b(state) == 3 ? 1.0f : 0.0f);
                due = due + 1.0f;
            }
            due = due + 3.0f / 10.0f;
        }
        due = due + 99.0f / 10.0f;
        // statement 5 is set a: while 0, if 1, if 2, set c 3, set b 4, set a 5
        Check.sameFloat("cost(0)", x.cost(0), due);
    }

    @Says("-1.0f if it does not end.")
    static void promise19_aRunThatDoesNotEnd() {
        BackwardProofs x = Check.loaded(AHEAD + ENDLESS);
        Check.sameFloat("cost(4)", x.cost(4), -1.0f);
        x.setPrice(0, 0);
        Check.sameFloat("cost(4) without prices", x.cost(4), -1.0f);
        Check.sameFloat("cost(0) without prices", x.cost(0), 0.0f);
    }

    @Says("Throws `IllegalArgumentException` if state is out of range")
    static void promise19_stateOutOfRange() {
        BackwardProofs x = new BackwardProofs();
        for (int state : OUT_OF_RANGE) {
            Check.throwsArgument("cost(" + state + ")", () -> x.cost(state));
        }
    }

    // ---- Promise 20: costBits

    @Says("0 to 63")
    static void promise20_theLeastAndTheGreatestState() {
        BackwardProofs x = Check.loaded(AHEAD + DOWN);
        Check.same("costBits(0)", x.costBits(0), 0x3F800000);
        Check.same("costBits(63)", x.costBits(63), 0x40E00000);
    }

    @Says("Returns the bits of cost(), as Float.floatToIntBits tells them.")
    static void promise20_theBitsOf0() {
        Check.same("costBits(0)", Check.loaded("proof true true").costBits(0), 0);
    }

    @Says("Returns the bits of cost(), as Float.floatToIntBits tells them.")
    static void promise20_theBitsOfMinus1() {
        Check.same("costBits(4)", Check.loaded(AHEAD + ENDLESS).costBits(4), 0xBF800000);
    }

    @Says("Returns the bits of cost(), as Float.floatToIntBits tells them.")
    static void promise20_theBitsOfPowersOfTwo() {
        BackwardProofs x = Check.loaded(AHEAD + "hole ".repeat(8));
        int[] due = {0x3F000000, 0x3F800000, 0x40000000, 0x40800000, 0x41000000, 0x41800000, 0x42000000, 0x42800000};
        int tenths = 5;
        for (int power = 0; power < due.length; power++) {
            for (int statement = 0; statement < 8; statement++) {
                int left = tenths - 80 * statement;
                x.setPrice(statement, left <= 0 ? 0 : Math.min(left, 80));
            }
            Check.same("costBits(0) of " + tenths + " tenths", x.costBits(0), due[power]);
            long bits = 0x3FE0000000000000L + ((long) power << 52);
            Check.same("meanBits() of " + tenths + " tenths", x.meanBits(), bits);
            tenths *= 2;
        }
    }

    @Says("Returns the bits of cost(), as Float.floatToIntBits tells them.")
    static void promise20_theBitsOfEachPriceAndOfSums() {
        BackwardProofs x = Check.loaded(AHEAD + "hole hole hole");
        for (int price = 0; price < 100; price++) {
            x.setPrice(0, price);
            x.setPrice(1, 99 - price);
            x.setPrice(2, price * 7 % 100);
            float due = (float) price / 10.0f;
            due = due + (float) (99 - price) / 10.0f;
            due = due + (float) (price * 7 % 100) / 10.0f;
            Check.same("costBits(0)", x.costBits(0), Float.floatToIntBits(due));
        }
    }

    @Says("Returns the bits of cost(), as Float.floatToIntBits tells them.")
    static void promise20_theBitsOfTheLeastAndAGreatCost() {
        BackwardProofs x = Check.loaded(AHEAD + "hole");
        x.setPrice(0, 1);
        Check.same("costBits(0) of 0.1f", x.costBits(0), 0x3DCCCCCD);
        BackwardProofs y = Check.loaded(AHEAD + "while not and eq a 3 and eq b 3 eq c 3 keep true less 0 "
                + "hole ".repeat(17) + COUNT_UP + "end ");
        for (int statement = 0; statement < 23; statement++) {
            y.setPrice(statement, 99);
        }
        float due = 0.0f;
        for (int i = 0; i < 64 + 63 * 19 + 33; i++) {
            due = due + 99.0f / 10.0f;
        }
        Check.same("costBits(0) of some 12,800", y.costBits(0), Float.floatToIntBits(due));
    }

    @Says("Throws `IllegalArgumentException` if state is out of range")
    static void promise20_stateOutOfRange() {
        BackwardProofs x = new BackwardProofs();
        for (int state : OUT_OF_RANGE) {
            Check.throwsArgument("costBits(" + state + ")", () -> x.costBits(state));
        }
    }

    // ---- Promise 21: met

    @Says("Returns the set of states in which runs that begin in states of BEFORE are right ahead of this statement, once at "
            + "least")
    static void promise21_noStateOneStateAllStates() {
        BackwardProofs x = Check.loaded("proof false true hole");
        Check.same("met(0) of an empty BEFORE", x.met(0), 0L);
        Check.setBefore(x, STATE_63);
        Check.same("met(0)", x.met(0), Long.MIN_VALUE);
        Check.setBefore(x, STATE_0);
        Check.same("met(0)", x.met(0), 1L);
        Check.setBefore(x, "true");
        Check.same("met(0)", x.met(0), -1L);
    }

    @Says("are right ahead of this statement, once at least")
    static void promise21_theStatesAheadAndNotThoseBehind() {
        BackwardProofs x = Check.loaded("proof eq a 1 true set a plus a 1 set a 0 hole");
        Check.same("met(0)", x.met(0), Check.states(s -> Check.a(s) == 1));
        Check.same("met(1)", x.met(1), Check.states(s -> Check.a(s) == 2));
        Check.same("met(2)", x.met(2), Check.states(s -> Check.a(s) == 0));
    }

    @Says("are right ahead of this statement, once at least")
    static void promise21_aRowThatIsNeverDone() {
        BackwardProofs x = Check.loaded(AHEAD + "if lt 3 a hole else hole end while false keep true less 0 hole end");
        Check.same("met(1)", x.met(1), 0L);
        Check.same("met(2)", x.met(2), -1L);
        Check.same("met(3)", x.met(3), -1L);
        Check.same("met(4)", x.met(4), 0L);
    }

    @Says("(of a while: at each look at its condition;")
    static void promise21_eachLookOfAWhileTheLastOneToo() {
        BackwardProofs x = Check.loaded("proof and eq a 3 and eq b 0 eq c 0 true " + DOWN);
        Check.same("met(0)", x.met(0), 15L);
        Check.same("met(1): its row", x.met(1), 14L);
    }

    @Says("also of runs that do not end).")
    static void promise21_runsThatDoNotEnd() {
        BackwardProofs x = Check.loaded("proof and eq b 1 and eq a 0 eq c 0 true hole " + ENDLESS + "hole");
        Check.same("met(0)", x.met(0), 1L << 4);
        Check.same("met(1)", x.met(1), 1L << 4);
        Check.same("met(2): behind it", x.met(2), 0L);
    }

    @Says("Throws `NoSuchElementException` if there is no such statement")
    static void promise21_noSuchStatement() {
        BackwardProofs x = new BackwardProofs();
        Check.throwsMissing("met(4)", () -> x.met(4));
        for (int statement : FAR) {
            Check.throwsMissing("met(" + statement + ")", () -> x.met(statement));
        }
        BackwardProofs none = Check.loaded("proof true true");
        Check.throwsMissing("met(0) of no statements", () -> none.met(0));
    }

    // ---- Promise 22: rounds

    private static final String ROUNDS = "Returns the most rounds (its row done to the end) that it has without break in runs "
            + "that begin in states of BEFORE and end;";

    @Says(ROUNDS)
    static void promise22_roundsFrom0To63() {
        Check.same("rounds(0): none", Check.loaded(AHEAD + "while false keep true less 0 end").rounds(0), 0);
        Check.same("rounds(0): one", Check.loaded(AHEAD + "while eq a 3 keep true less 0 set a 0 end").rounds(0), 1);
        Check.same("rounds(0): three", Check.loaded(AHEAD + DOWN).rounds(0), 3);
        Check.same("rounds(0): 63", Check.loaded(AHEAD + ALL_STATES).rounds(0), 63);
    }

    @Says("that it has without break")
    static void promise22_roundsBehindABreakCountAnew() {
        BackwardProofs x = Check.loaded("proof " + STATE_0 + " true while lt a 3 keep true less 0 set b 2 "
                + "while lt 0 b keep true less b set b minus b 1 end set a plus a 1 end");
        Check.same("rounds(0)", x.rounds(0), 3);
        Check.same("rounds(1): two, three times", x.rounds(1), 2);
    }

    @Says("the most rounds")
    static void promise22_theMostAndNotTheLatest() {
        BackwardProofs x = Check.loaded("proof " + STATE_0 + " true while lt a 3 keep true less 0 set b minus 2 a "
                + "while lt 0 b keep true less b set b minus b 1 end set a plus a 1 end");
        Check.same("rounds(1): two, one, none", x.rounds(1), 2);
    }

    @Says("in runs that begin in states of BEFORE and end;")
    static void promise22_onlyRunsFromBefore() {
        BackwardProofs x = Check.loaded("proof lt a 2 true " + DOWN);
        Check.same("rounds(0)", x.rounds(0), 1);
        Check.setBefore(x, STATE_63);
        Check.same("rounds(0) from 63", x.rounds(0), 3);
        Check.setBefore(x, STATE_0);
        Check.same("rounds(0) from 0", x.rounds(0), 0);
    }

    @Says("in runs that begin in states of BEFORE and end;")
    static void promise22_onlyRunsThatEnd() {
        BackwardProofs x = Check.loaded("proof or and eq a 3 eq b 1 and eq a 1 eq b 0 true " + DOWN + ENDLESS);
        Check.same("rounds(0)", x.rounds(0), 1);
    }

    @Says("0 if there are no such runs.")
    static void promise22_noSuchRuns() {
        BackwardProofs x = Check.loaded("proof eq b 1 true " + DOWN + ENDLESS);
        Check.same("rounds(0): none ends", x.rounds(0), 0);
        Check.same("rounds(1): none ends", x.rounds(1), 0);
        Check.setBefore(x, "false");
        Check.same("rounds(0): none begins", x.rounds(0), 0);
    }

    @Says("Throws `NoSuchElementException` if there is no such loop")
    static void promise22_noSuchLoop() {
        BackwardProofs x = new BackwardProofs();
        Check.throwsMissing("rounds(1)", () -> x.rounds(1));
        for (int loop : FAR) {
            Check.throwsMissing("rounds(" + loop + ")", () -> x.rounds(loop));
        }
        BackwardProofs none = Check.loaded(AHEAD + "hole");
        Check.throwsMissing("rounds(0) of no loops", () -> none.rounds(0));
    }

    // ---- Promise 23: wrong

    private static final String WRONG = "Returns the set of states of BEFORE of which a run does not end, or ends in a state "
            + "in which AFTER does not hold.";

    @Says(WRONG)
    static void promise23_noStateOneStateAllStates() {
        BackwardProofs x = Check.loaded("proof true true hole");
        Check.same("wrong()", x.wrong(), 0L);
        Check.setAfter(x, "not " + STATE_63);
        Check.same("wrong()", x.wrong(), Long.MIN_VALUE);
        Check.setAfter(x, "not " + STATE_0);
        Check.same("wrong()", x.wrong(), 1L);
        Check.setAfter(x, "false");
        Check.same("wrong()", x.wrong(), -1L);
    }

    @Says("of which a run does not end")
    static void promise23_runsThatDoNotEndAreWrongWhateverAfterIs() {
        BackwardProofs x = Check.loaded(AHEAD + ENDLESS);
        Check.same("wrong()", x.wrong(), Check.states(s -> Check.b(s) == 1));
    }

    @Says("or ends in a state in which AFTER does not hold.")
    static void promise23_theStateThatARunBeginsInIsTold() {
        BackwardProofs x = Check.loaded("proof true lt a 3 set a plus a 1");
        Check.same("wrong(): 2 becomes 3", x.wrong(), Check.states(s -> Check.a(s) == 2));
    }

    @Says("the set of states of BEFORE")
    static void promise23_onlyStatesOfBefore() {
        BackwardProofs x = Check.loaded("proof lt c 2 false hole " + ENDLESS);
        Check.same("wrong()", x.wrong(), Check.states(s -> Check.c(s) < 2));
        Check.setBefore(x, "false");
        Check.same("wrong() of an empty BEFORE", x.wrong(), 0L);
    }

    // ---- Promise 24: dearest

    @Says("Returns the state of BEFORE whose run ends and has the greatest COST")
    static void promise24_theLeastAndTheGreatestState() {
        BackwardProofs x = Check.loaded(AHEAD + "if " + STATE_63 + " hole else end");
        Check.same("dearest()", x.dearest(), 63);
        x.setPrice(1, 0);
        Check.same("dearest(): all alike", x.dearest(), 0);
        BackwardProofs y = Check.loaded(AHEAD + "if " + STATE_0 + " hole else end");
        Check.same("dearest()", y.dearest(), 0);
    }

    @Says("of several the least state;")
    static void promise24_ofSeveralTheLeast() {
        BackwardProofs x = Check.loaded(AHEAD + DOWN);
        Check.same("dearest(): a is 3", x.dearest(), 3);
        Check.setBefore(x, "lt 1 c");
        Check.same("dearest(): and c is 2", x.dearest(), 35);
        Check.setBefore(x, "eq a 2");
        Check.same("dearest()", x.dearest(), 2);
    }

    @Says("of several the least state;")
    static void promise24_costsOf0Count() {
        BackwardProofs x = Check.loaded("proof eq c 3 true");
        Check.same("dearest()", x.dearest(), 48);
    }

    @Says("whose run ends")
    static void promise24_runsThatDoNotEndAreNoDearest() {
        BackwardProofs x = Check.loaded("proof lt b 2 true if eq b 1 hole hole else end " + ENDLESS);
        Check.same("dearest()", x.dearest(), 0);
        Check.setBefore(x, "or eq b 1 " + STATE_63);
        Check.same("dearest()", x.dearest(), 63);
    }

    @Says("NONE if there is none.")
    static void promise24_thereIsNone() {
        BackwardProofs x = Check.loaded("proof false true hole " + ENDLESS);
        Check.same("dearest() of an empty BEFORE", x.dearest(), -1);
        Check.setBefore(x, "eq b 1");
        Check.same("dearest(): no run ends", x.dearest(), -1);
    }

    // ---- Promises 25 and 26: meanCost, meanBits

    private static final String MEAN = "Returns the COSTs of all runs that begin in states of BEFORE and end, by rising states, "
            + "each as a double, together (beginning with 0.0), divided by how many they are as a double;";

    @Says(MEAN)
    static void promise25_oneRunAndAllRuns() {
        BackwardProofs x = Check.loaded("proof " + STATE_63 + " true " + DOWN);
        Check.sameDouble("meanCost() of one", x.meanCost(), 7.0);
        Check.setBefore(x, "true");
        Check.sameDouble("meanCost() of 64", x.meanCost(), (1.0 + 3.0 + 5.0 + 7.0) / 4.0);
    }

    @Says("each as a double, together (beginning with 0.0)")
    static void promise25_theCostsAreFloatsThatAreAddedAsDoubles() {
        BackwardProofs x = Check.loaded("proof lt a 3 true hole hole hole");
        for (int statement = 0; statement < 3; statement++) {
            x.setPrice(statement, 1);
        }
        float cost = 0.1f + 0.1f + 0.1f;
        double together = 0.0;
        for (int i = 0; i < 48; i++) {
            together = together + (double) cost;
        }
        Check.sameDouble("meanCost()", x.meanCost(), together / 48.0);
    }

    @Says("by rising states")
    static void promise25_theCostsAreAddedByRisingStates() {
        BackwardProofs x = Check.loaded("proof true true " + DOWN + ALL_STATES);
        int[] prices = {1, 33, 7, 9, 11, 3, 77, 99};
        for (int statement = 0; statement < 8; statement++) {
            x.setPrice(statement, prices[statement]);
        }
        // in doubles these sums of floats are exact, so that another order would tell the same
        double rising = 0.0;
        for (int state = 0; state < 64; state++) {
            rising = rising + (double) x.cost(state);
        }
        Check.sameDouble("meanCost()", x.meanCost(), rising / 64.0);
    }

    @Says("of all runs that begin in states of BEFORE and end")
    static void promise25_onlyRunsThatEnd() {
        BackwardProofs x = Check.loaded("proof eq a 0 true if lt b 2 hole hole else end " + ENDLESS);
        // b 0: if, two holes, while; b 2 and b 3: if, while
        Check.sameDouble("meanCost()", x.meanCost(), (4 * 4.0 + 8 * 2.0) / 12.0);
    }

    @Says("0.0 without any.")
    static void promise25_withoutAny() {
        BackwardProofs x = Check.loaded("proof false true hole " + ENDLESS);
        Check.sameDouble("meanCost() of an empty BEFORE", x.meanCost(), 0.0);
        Check.setBefore(x, "eq b 1");
        Check.sameDouble("meanCost(): no run ends", x.meanCost(), 0.0);
    }

    @Says("Returns the bits of meanCost(), as Double.doubleToLongBits tells them.")
    static void promise26_theBitsOf0() {
        Check.same("meanBits() without runs", Check.loaded("proof false true hole").meanBits(), 0L);
        Check.same("meanBits() of no costs", Check.loaded("proof true true").meanBits(), 0L);
    }

    @Says("Returns the bits of meanCost(), as Double.doubleToLongBits tells them.")
    static void promise26_theBitsOfTheLeastMean() {
        // one state of 64 pays 0.1f
        BackwardProofs x = Check.loaded(AHEAD + "if " + STATE_63 + " hole else end");
        x.setPrice(0, 0);
        x.setPrice(1, 1);
        Check.same("meanBits()", x.meanBits(), Double.doubleToLongBits((double) 0.1f / 64.0));
    }

    @Says("Returns the bits of meanCost(), as Double.doubleToLongBits tells them.")
    static void promise26_theBitsOfMeansOfEachPrice() {
        BackwardProofs x = Check.loaded("proof lt a 3 true if eq a 0 hole else end");
        x.setPrice(0, 0);
        for (int price = 0; price < 100; price++) {
            x.setPrice(1, price);
            double together = 0.0;
            for (int i = 0; i < 16; i++) {
                together = together + (double) (price / 10.0f);
            }
            Check.same("meanBits()", x.meanBits(), Double.doubleToLongBits(together / 48.0));
        }
    }

    // ---- Promise 27: share

    private static final String SHARE = "Returns states of all that are in the NEED ahead of the program as a float, divided "
            + "by 64.0f.";

    @Says(SHARE)
    static void promise27_noStateOneStateAllStates() {
        BackwardProofs x = Check.loaded("proof true false hole");
        Check.sameFloat("share()", x.share(), 0.0f);
        Check.setAfter(x, STATE_63);
        Check.sameFloat("share()", x.share(), 0.015625f);
        Check.setAfter(x, "not " + STATE_63);
        Check.sameFloat("share()", x.share(), 63.0f / 64.0f);
        Check.setAfter(x, "true");
        Check.sameFloat("share()", x.share(), 1.0f);
    }

    @Says(SHARE)
    static void promise27_beforeDoesNotMatter() {
        BackwardProofs x = Check.loaded("proof false lt a 3 hole");
        Check.sameFloat("share()", x.share(), 0.75f);
    }
}
