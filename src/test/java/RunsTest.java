/** Promises 17 to 27: run, steps, cost, costBits, met, rounds, wrong, dearest, meanCost, meanBits, share. */
public final class RunsTest {
    private static final String COUNTING = "while lt 0 a keep true less a set a minus a 1 end";
    private static final String ENDLESS = "while eq b 1 keep true less 0 set c plus c 1 end";

    private RunsTest() {
    }

    public static void main(String[] args) {
        emptyProgram();
        runsOfBranches();
        steps();
        costsInOrder();
        costBits();
        runsWithoutEnd();
        longRuns();
        met();
        rounds();
        wrong();
        dearest();
        meanCost();
        share();
        wrongQuestions();
        Check.finish("RunsTest");
    }

    private static void emptyProgram() {
        BackwardProofs x = Check.loaded("proof eq a 1 eq a 2");
        for (int state = 0; state < 64; state++) {
            Check.same("run(" + state + ")", x.run(state), state);
            Check.same("steps(" + state + ")", x.steps(state), 0);
            Check.sameFloat("cost(" + state + ")", x.cost(state), 0.0f);
            Check.same("costBits(" + state + ")", x.costBits(state), 0);
        }
        Check.same("wrong()", x.wrong(), 0x2222222222222222L);
        Check.same("dearest()", x.dearest(), 1);
        Check.sameDouble("meanCost()", x.meanCost(), 0.0);
        Check.same("meanBits()", x.meanBits(), 0L);
    }

    private static void runsOfBranches() {
        BackwardProofs x = Check.loaded("proof true true if lt a b set c a hole else set c b end if eq c 0 else "
                + "set a times a c end");
        for (int state = 0; state < 64; state++) {
            int a = state % 4;
            int b = state / 4 % 4;
            int c = Math.min(a, b);
            int end = (c == 0 ? a : a * c % 4) + 4 * b + 16 * c;
            Check.same("run(" + state + ")", x.run(state), end);
            Check.same("steps(" + state + ")", x.steps(state), (a < b ? 3 : 2) + (c == 0 ? 1 : 2));
        }
    }

    private static void steps() {
        BackwardProofs x = Check.loaded("proof true true hole set b 1 " + COUNTING);
        for (int state = 0; state < 64; state++) {
            Check.same("steps(" + state + ")", x.steps(state), 3 + 2 * (state % 4));
            Check.same("run(" + state + ")", x.run(state), 4 + 16 * (state / 16));
        }
        x.fill(0, 3);
        Check.same("steps(0) with a filled hole", x.steps(0), 9);
        Check.sameFloat("cost(0) with a filled hole", x.cost(0), 9.0f);
    }

    private static void costsInOrder() {
        BackwardProofs x = Check.loaded("proof true true set b 1 " + COUNTING + " hole");
        int[] prices = {1, 2, 7, 33};
        for (int i = 0; i < prices.length; i++) {
            x.setPrice(i, prices[i]);
        }
        float due = 0.0f;
        int[] order = {1, 2, 7, 2, 7, 2, 7, 2, 33};
        for (int price : order) {
            due = due + (float) price / 10.0f;
        }
        Check.sameFloat("cost(3)", x.cost(3), due);
        Check.same("costBits(3)", x.costBits(3), Float.floatToIntBits(due));
        x.setPrice(0, 0);
        x.setPrice(1, 0);
        x.setPrice(3, 0);
        Check.sameFloat("cost(0)", x.cost(0), 0.0f);
        Check.same("costBits(0)", x.costBits(0), 0);
        Check.sameFloat("cost(2)", x.cost(2), 0.7f + 0.7f);
        // added in another order, these are not the same float
        BackwardProofs y = Check.loaded("proof true true hole hole hole hole hole hole");
        int[] others = {99, 1, 1, 1, 3, 98};
        due = 0.0f;
        for (int i = 0; i < others.length; i++) {
            y.setPrice(i, others[i]);
            due += others[i] / 10.0f;
        }
        Check.sameFloat("cost(9)", y.cost(9), due);
    }

    private static void costBits() {
        BackwardProofs x = Check.loaded("proof true true hole");
        for (int price = 0; price < 100; price++) {
            x.setPrice(0, price);
            int due = Float.floatToIntBits(price / 10.0f);
            Check.same("costBits(7)", x.costBits(7), due);
            Check.same("meanBits()", x.meanBits(), Double.doubleToLongBits(64 * (double) (price / 10.0f) / 64));
        }
        x.setPrice(0, 1);
        Check.same("costBits(7)", x.costBits(7), 0x3DCCCCCD);
        Check.same("meanBits()", x.meanBits(), 0x3FB99999A0000000L);
    }

    private static void runsWithoutEnd() {
        BackwardProofs x = Check.loaded("proof eq b 1 true set a 0 " + ENDLESS);
        for (int state = 0; state < 64; state++) {
            boolean ends = state / 4 % 4 != 1;
            Check.same("run(" + state + ")", x.run(state), ends ? state - state % 4 : -1);
            Check.same("steps(" + state + ")", x.steps(state), ends ? 2 : -1);
            Check.sameFloat("cost(" + state + ")", x.cost(state), ends ? 2.0f : -1.0f);
            Check.same("costBits(" + state + ")", x.costBits(state), ends ? 0x40000000 : 0xBF800000);
        }
        Check.same("dearest()", x.dearest(), -1);
        Check.sameDouble("meanCost()", x.meanCost(), 0.0);
        Check.same("wrong()", x.wrong(), x.before());
        // a loop may be begun again in the same state: only what it does without coming out counts
        BackwardProofs y = Check.loaded("proof true true while lt 0 a keep true less a "
                + "set b 3 while lt 0 b keep true less b set b minus b 1 end set a minus a 1 end");
        Check.same("run(3)", y.run(3), 0);
        Check.same("steps(3)", y.steps(3), 1 + 3 * (1 + 4 + 3 + 1 + 1));
        Check.same("run(63)", y.run(63), 48);
        // the outer loop comes round to the same state, the inner one always ends
        BackwardProofs z = Check.loaded("proof true true while lt a 3 keep true less a "
                + "set b 3 while lt 0 b keep true less b set b minus b 1 end end");
        Check.same("run(0)", z.run(0), -1);
        Check.same("run(3)", z.run(3), 3);
    }

    private static void longRuns() {
        BackwardProofs x = Check.loaded("proof true true while not and eq a 3 and eq b 3 eq c 3 keep true less 0 "
                + "if eq a 3 if eq b 3 set c plus c 1 else end set b plus b 1 else end set a plus a 1 end");
        Check.same("run(0): all states", x.run(0), 63);
        Check.same("rounds(0)", x.rounds(0), 63);
        Check.same("steps(0)", x.steps(0), 64 + 63 * 2 + 15 * 2 + 3);
        Check.same("met(0)", x.met(0), -1L);
        Check.same("safe(0)", x.safe(0), -1L);
        Check.same("dearest()", x.dearest(), 0);
    }

    private static void met() {
        BackwardProofs x = Check.loaded("proof and eq a 2 eq c 0 true hole " + COUNTING + " set b 3 hole");
        Check.same("met(0)", x.met(0), 0x0000000000004444L);
        Check.same("met(1): at each look", x.met(1), 0x0000000000007777L);
        Check.same("met(2)", x.met(2), 0x0000000000006666L);
        Check.same("met(3)", x.met(3), 0x0000000000001111L);
        Check.same("met(4)", x.met(4), 0x0000000000001000L);
        BackwardProofs y = Check.loaded("proof and eq a 0 and eq b 1 eq c 2 true if eq a 0 hole else hole end " + ENDLESS
                + " hole");
        Check.same("met(0)", y.met(0), 1L << 36);
        Check.same("met(1)", y.met(1), 1L << 36);
        Check.same("met(2): never", y.met(2), 0L);
        Check.same("met(3): of a run that does not end", y.met(3), 0x0010001000100010L);
        Check.same("met(4)", y.met(4), 0x0010001000100010L);
        Check.same("met(5): never", y.met(5), 0L);
        Check.setBefore(y, "false");
        for (int statement = 0; statement < 6; statement++) {
            Check.same("met(" + statement + ") without BEFORE", y.met(statement), 0L);
        }
        // the second time round the outer loop a state comes that the first time did not meet
        BackwardProofs z = Check.loaded("proof and eq a 0 and eq b 0 eq c 0 true while true keep true less 0 "
                + "while lt a 2 keep true less 0 set a plus a 1 end set a 0 set b plus b 1 end");
        Check.same("met(0)", z.met(0), 0x0000000000001111L);
        Check.same("met(1)", z.met(1), 0x0000000000007777L);
        Check.same("met(3)", z.met(3), 0x0000000000004444L);
    }

    private static void rounds() {
        BackwardProofs x = Check.loaded("proof eq a 3 true while lt 0 a keep true less a "
                + "set b 2 while lt 0 b keep true less b set b minus b 1 end set a minus a 1 end");
        Check.same("rounds(0)", x.rounds(0), 3);
        Check.same("rounds(1): without break", x.rounds(1), 2);
        Check.setBefore(x, "eq a 0");
        Check.same("rounds(0)", x.rounds(0), 0);
        Check.same("rounds(1)", x.rounds(1), 0);
        Check.setBefore(x, "lt a 2");
        Check.same("rounds(0)", x.rounds(0), 1);
        Check.same("rounds(1)", x.rounds(1), 2);
        BackwardProofs y = Check.loaded("proof or and eq a 1 eq b 0 and eq a 3 eq b 1 true " + COUNTING + " " + ENDLESS);
        Check.same("rounds(0): only of runs that end", y.rounds(0), 1);
        Check.same("rounds(1)", y.rounds(1), 0);
        Check.setBefore(y, "eq b 1");
        Check.same("rounds(0): no run ends", y.rounds(0), 0);
        // the most, not the latest, of one run
        BackwardProofs z = Check.loaded("proof true true set a 0 while lt a 3 keep true less 0 set b minus 2 a "
                + "while lt 0 b keep true less b set b minus b 1 end set a plus a 1 end");
        Check.same("rounds(0)", z.rounds(0), 3);
        Check.same("rounds(1)", z.rounds(1), 2);
        Check.same("rounds of an empty row", Check.loaded("proof true true while false keep true less 0 end").rounds(0), 0);
    }

    private static void wrong() {
        BackwardProofs x = Check.loaded("proof lt a 2 eq a 0 if eq a 1 hole else end " + ENDLESS);
        Check.same("wrong(): a 1, or no end", x.wrong(), 0x2232223222322232L);
        x.fill(0, 0);
        Check.same("wrong(): no end", x.wrong(), 0x0030003000300030L);
        Check.setBefore(x, "and lt a 2 eq b 0");
        Check.same("wrong()", x.wrong(), 0L);
        Check.setAfter(x, "false");
        Check.same("wrong()", x.wrong(), 0x0003000300030003L);
        Check.setBefore(x, "false");
        Check.same("wrong()", x.wrong(), 0L);
    }

    private static void dearest() {
        BackwardProofs x = Check.loaded("proof true true if lt a 2 hole else hole end " + ENDLESS);
        Check.same("dearest(): all alike", x.dearest(), 0);
        x.setPrice(2, 11);
        Check.same("dearest(): a at least 2", x.dearest(), 2);
        x.setPrice(1, 12);
        Check.same("dearest()", x.dearest(), 0);
        Check.setBefore(x, "and eq a 3 lt 0 b");
        Check.same("dearest(): not those without end", x.dearest(), 11);
        for (int statement = 0; statement < 5; statement++) {
            x.setPrice(statement, 0);
        }
        Check.same("dearest() of no costs", x.dearest(), 11);
        Check.setBefore(x, "eq b 1");
        Check.same("dearest() without a run that ends", x.dearest(), -1);
        Check.setBefore(x, "false");
        Check.same("dearest() without a run", x.dearest(), -1);
    }

    private static void meanCost() {
        BackwardProofs x = Check.loaded("proof and eq b 0 eq c 0 true " + COUNTING + " " + ENDLESS);
        x.setPrice(0, 1);
        x.setPrice(1, 3);
        x.setPrice(2, 7);
        double together = 0.0;
        for (int a = 0; a < 4; a++) {
            float cost = 0.0f;
            for (int i = 0; i < a; i++) {
                cost = cost + 0.1f;
                cost = cost + 0.3f;
            }
            cost = cost + 0.1f;
            cost = cost + 0.7f;
            together = together + (double) cost;
        }
        Check.sameDouble("meanCost()", x.meanCost(), together / 4.0);
        Check.same("meanBits()", x.meanBits(), Double.doubleToLongBits(together / 4.0));
        Check.setBefore(x, "and and eq a 0 eq c 0 lt b 2");
        float only = 0.1f + 0.7f;
        Check.sameDouble("meanCost(): the runs that end", x.meanCost(), only);
        Check.setBefore(x, "eq b 1");
        Check.sameDouble("meanCost() without a run that ends", x.meanCost(), 0.0);
        Check.setBefore(x, "false");
        Check.sameDouble("meanCost() without a run", x.meanCost(), 0.0);
        Check.same("meanBits() without a run", x.meanBits(), 0L);
    }

    private static void share() {
        Check.sameFloat("share()", new BackwardProofs().share(), 1.0f);
        BackwardProofs x = Check.loaded("proof true and eq a 1 and eq b 1 eq c 1");
        Check.sameFloat("share() of no statement", x.share(), 0.015625f);
        Check.load(x, "proof true lt a 3 set a b");
        Check.sameFloat("share()", x.share(), 0.75f);
        Check.load(x, "proof true true while true keep false less 0 end");
        Check.sameFloat("share()", x.share(), 0.0f);
    }

    private static void wrongQuestions() {
        BackwardProofs x = new BackwardProofs();
        int[] states = {-1, 64, Integer.MIN_VALUE, Integer.MAX_VALUE};
        for (int state : states) {
            Check.throwsArgument("run(" + state + ")", () -> x.run(state));
            Check.throwsArgument("steps(" + state + ")", () -> x.steps(state));
            Check.throwsArgument("cost(" + state + ")", () -> x.cost(state));
            Check.throwsArgument("costBits(" + state + ")", () -> x.costBits(state));
            Check.throwsMissing("met(" + state + ")", () -> x.met(state));
            Check.throwsMissing("rounds(" + state + ")", () -> x.rounds(state));
        }
        Check.throwsMissing("met(4)", () -> x.met(4));
        Check.throwsMissing("rounds(1)", () -> x.rounds(1));
    }
}
