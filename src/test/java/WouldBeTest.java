/** Promises 28 to 31: proves, rights, safe, unsafe. */
public final class WouldBeTest {
    private WouldBeTest() {
    }

    public static void main(String[] args) {
        leastFillings();
        provesAndRightsDiffer();
        otherHoles();
        nothingChanges();
        safe();
        wrongQuestions();
        Check.finish("WouldBeTest");
    }

    private static void leastFillings() {
        both("proof true eq a 2 hole", 2);
        both("proof true true hole", 0);
        both("proof true eq b 3 hole", 16);
        both("proof eq a 1 eq b 1 hole", 14);
        both("proof true eq c 3 hole", 29);
        both("proof eq a b eq c a hole", 6);
        both("proof true eq a c hole", 6);
        both("proof true eq a plus a 1 hole", -1);
        both("proof true eq b minus a 1 hole", 8);
        both("proof eq a b eq a plus b 1 hole", 7);
        both("proof eq c b eq c minus b 1 hole", 21);
        both("proof eq c minus b 2 eq c minus b 1 hole", 22);
        both("proof eq b plus a 2 eq c plus b 1 hole", 25);
        // two variables that tell what c was, and all three are asked for: only c itself can be changed
        both("proof and eq a plus c 1 eq b plus c 1 and eq a plus c 2 eq b plus c 2 hole", 38);
        both("proof and eq a plus c 3 eq b plus c 3 and eq a plus c 2 eq b plus c 2 hole", 35);
        both("proof and eq a c eq b c and eq a plus c 1 eq b plus c 1 hole", 36);
        both("proof and eq a c eq b c and eq a plus c 3 eq b plus c 3 hole", 33);
        both("proof and eq a c eq b plus c 1 and eq a plus c 3 eq b c hole", 31);
        both("proof and eq a 0 and eq b 2 lt c 3 and lt 0 c and eq a 0 eq b 2 hole", 27);
        both("proof lt c 3 lt 0 c hole", 27);
        both("proof and eq a 0 lt 0 c and eq a 0 lt c 3 hole", 26);
        both("proof and lt 0 c eq a plus c 1 eq a plus c 2 hole", 7);
        both("proof true and eq a 0 eq b 0 hole", -1);
        both("proof false false hole", 0);
    }

    private static void both(String text, int due) {
        BackwardProofs x = Check.loaded(text);
        Check.same("proves(0) of " + text, x.proves(0), due);
        Check.same("rights(0) of " + text, x.rights(0), due);
    }

    private static void provesAndRightsDiffer() {
        // what the loop keeps says too little, but all runs end as they should
        BackwardProofs x = Check.loaded("proof true eq a 0 hole while lt 0 a keep false less a set a minus a 1 end");
        Check.same("proves(0)", x.proves(0), -1);
        Check.same("rights(0)", x.rights(0), 0);
        // what becomes less must become less from each state of KEEP, but runs may take another way
        BackwardProofs z = Check.loaded("proof eq a 3 true while lt 0 a keep true less b set a minus a 1 hole end");
        Check.same("proves(0)", z.proves(0), -1);
        Check.same("rights(0)", z.rights(0), 0);
        BackwardProofs y = Check.loaded("proof true true while lt 0 b keep true less b hole end");
        Check.same("proves(0)", y.proves(0), 13);
        Check.same("rights(0)", y.rights(0), 13);
        Check.setKeep(y, 0, "and lt 0 b eq a b");
        Check.setBefore(y, "and lt 0 b eq a b");
        Check.same("proves(0): KEEP must stay", y.proves(0), -1);
        Check.same("rights(0)", y.rights(0), 13);
        // a duty behind a loop fails though no run comes there
        BackwardProofs w = Check.loaded("proof eq a 0 eq a 0 hole while false keep true less 0 end");
        Check.same("proves(0)", w.proves(0), -1);
        Check.same("rights(0)", w.rights(0), 0);
    }

    private static void otherHoles() {
        BackwardProofs x = Check.loaded("proof true and eq a 1 eq b 2 hole hole");
        Check.same("proves(0)", x.proves(0), -1);
        Check.same("rights(1)", x.rights(1), -1);
        x.fill(0, 1);
        Check.same("proves(0): its own filling does not stay", x.proves(0), -1);
        Check.same("proves(1)", x.proves(1), 15);
        Check.same("rights(1)", x.rights(1), 15);
        x.fill(1, 15);
        Check.same("proves(0)", x.proves(0), 1);
        Check.same("rights(0)", x.rights(0), 1);
        x.fill(0, -1);
        Check.same("proves(1)", x.proves(1), -1);
    }

    private static void nothingChanges() {
        BackwardProofs x = Check.loaded("proof true and eq a 1 eq b 2 hole while lt 0 c keep true less c hole end");
        x.fill(0, 5);
        x.writeNeed(0);
        Check.feed(x, "set");
        Check.throwsState("load(3)", () -> x.load(3));
        Check.feed(x, "eq");
        String value = answers(x);
        x.proves(0);
        x.proves(1);
        Check.sameText("behind proves()", answers(x), value);
        x.rights(0);
        x.rights(1);
        Check.sameText("behind rights()", answers(x), value);
        x.safe(0);
        x.unsafe(0);
        Check.sameText("behind safe()", answers(x), value);
        Check.same("value(7)", x.value(7), 1);
        Check.same("errorCode()", x.errorCode(), 1);
        Check.same("feed", x.feed(0, 0, 0, 0, 0), 40);
    }

    private static String answers(BackwardProofs x) {
        return "" + x.need(0) + " " + x.needAhead() + " " + x.statement(0, 1) + " " + x.value(3) + " " + x.value(5) + " "
                + x.failing(0) + " " + x.failing(3) + " " + x.run(63) + " " + x.steps(7) + " " + x.costBits(9) + " "
                + x.wrong() + " " + x.meanBits() + " " + x.met(1) + " " + x.outputByte(0) + " " + x.needNodes(0);
    }

    private static void safe() {
        BackwardProofs x = Check.loaded("proof false eq b 0 while lt 0 a keep lt c 2 less a set a minus a 1 end");
        Check.same("safe(0)", x.safe(0), 0x000F000F000F000FL);
        Check.same("unsafe(0)", x.unsafe(0), 0x00000000FFF0FFF0L);
        BackwardProofs y = Check.loaded("proof true true while lt a 3 keep lt 0 a less 0 "
                + "if eq a 2 else set a plus a 1 end end");
        Check.same("safe(0): the others do not end", y.safe(0), 0x8888888888888888L);
        Check.same("unsafe(0)", y.unsafe(0), 0x6666666666666666L);
        // the inner loop alone, and the need behind it, which is KEEP of the outer one
        BackwardProofs z = Check.loaded("proof true false while true keep eq a 1 less 0 set c 0 "
                + "while lt b 2 keep true less 0 set b plus b 1 end end hole");
        Check.same("safe(1)", z.safe(1), 0x2222222222222222L);
        Check.same("unsafe(1)", z.unsafe(1), 0xDDDDDDDDDDDDDDDDL);
        Check.same("safe(0): it does not end", z.safe(0), 0L);
        Check.same("unsafe(0)", z.unsafe(0), 0x2222222222222222L);
        // ahead of a set, the need is not AFTER
        BackwardProofs w = Check.loaded("proof true eq a 0 while lt a 2 keep true less 0 set a plus a 1 end set a minus a 3");
        Check.same("safe(0)", w.safe(0), 0x8888888888888888L);
        Check.setAfter(w, "eq a 3");
        Check.same("safe(0)", w.safe(0), 0x7777777777777777L);
    }

    private static void wrongQuestions() {
        BackwardProofs x = new BackwardProofs();
        int[] numbers = {1, -1, Integer.MIN_VALUE, Integer.MAX_VALUE};
        for (int number : numbers) {
            Check.throwsMissing("proves(" + number + ")", () -> x.proves(number));
            Check.throwsMissing("rights(" + number + ")", () -> x.rights(number));
            Check.throwsMissing("safe(" + number + ")", () -> x.safe(number));
            Check.throwsMissing("unsafe(" + number + ")", () -> x.unsafe(number));
        }
        BackwardProofs empty = Check.loaded("proof true true");
        Check.throwsMissing("proves(0)", () -> empty.proves(0));
        Check.throwsMissing("safe(0)", () -> empty.safe(0));
    }
}
