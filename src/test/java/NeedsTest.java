/** Promises 12 to 16: need, needAhead, duty, failing, trouble. */
public final class NeedsTest {
    private NeedsTest() {
    }

    public static void main(String[] args) {
        needs();
        needsOfIf();
        needsInLoops();
        needsOfHoles();
        dutyAhead();
        dutiesOfLoops();
        dutiesOfEmptyRows();
        dutiesOfRowsWithoutEnd();
        wrongQuestions();
        Check.finish("NeedsTest");
    }

    private static void needs() {
        BackwardProofs x = Check.loaded("proof true eq b 1 set b plus b a set a 1");
        // behind set a 1 still b 1; ahead of the first b + a is 1
        Check.same("need(1)", x.need(1), 0x00F000F000F000F0L);
        Check.same("need(0)", x.need(0), rows(1, 0, 3, 2));
        Check.same("needAhead()", x.needAhead(), x.need(0));
        BackwardProofs empty = Check.loaded("proof true eq a 2");
        Check.same("needAhead() of no statement", empty.needAhead(), 0x4444444444444444L);
        BackwardProofs swap = Check.loaded("proof true and eq a 1 eq b 2 set c a set a b set b c");
        Check.same("need(2)", swap.need(2), 0x0000222200000000L);
        Check.same("needAhead(): a is 2 and b is 1", swap.needAhead(), 0x0040004000400040L);
    }

    /** The set of states with b 0 to 3, where a is what stands at the place of b. */
    private static long rows(int a0, int a1, int a2, int a3) {
        long sixteen = (1L << a0) | (1L << (4 + a1)) | (1L << (8 + a2)) | (1L << (12 + a3));
        return sixteen | (sixteen << 16) | (sixteen << 32) | (sixteen << 48);
    }

    private static void needsOfIf() {
        BackwardProofs x = Check.loaded("proof true eq a 0 if eq a 1 else set a 0 end");
        Check.same("need(1)", x.need(1), -1L);
        Check.same("need(0): the first row is empty", x.need(0), 0xDDDDDDDDDDDDDDDDL);
        BackwardProofs y = Check.loaded("proof true eq a 0 if eq a 1 set a 2 set a minus a 2 else end");
        Check.same("need(1)", y.need(1), -1L);
        Check.same("need(2)", y.need(2), 0x4444444444444444L);
        Check.same("need(0): the second row is empty", y.need(0), 0x3333333333333333L);
        BackwardProofs z = Check.loaded("proof true eq a 0 if lt a b if eq c 0 set a 0 else end else end set a plus a 1");
        Check.same("need(3)", z.need(3), 0x8888888888888888L);
        Check.same("need(2): behind it is what is behind both", z.need(2), 0L);
        Check.same("need(1)", z.need(1), 0x8888888888880000L);
        Check.same("need(0): a 3 and not less than b", z.need(0), 0x8888888888888888L);
    }

    private static void needsInLoops() {
        BackwardProofs x = Check.loaded("proof true false while lt a 3 keep lt b 2 less a set b c "
                + "if eq a 0 set b 3 else end while true keep eq c 1 less 0 hole end end set a 1");
        Check.same("need(6)", x.need(6), 0L);
        Check.same("need(0) is KEEP", x.need(0), 0x00FF00FF00FF00FFL);
        Check.same("need(4) is the inner KEEP", x.need(4), 0x00000000FFFF0000L);
        Check.same("need(5): behind it is the inner KEEP", x.need(5), 0x00000000FFFF0000L);
        Check.same("need(3)", x.need(3), 0x00000000FFFF0000L);
        Check.same("need(2)", x.need(2), 0x00000000FFFF0000L);
        Check.same("need(1)", x.need(1), 0x00000000FFFF0000L);
        BackwardProofs y = Check.loaded("proof true false while lt a 3 keep lt b 2 less a set b c "
                + "if eq a 0 set b 3 else end end");
        Check.same("need(3): behind it is KEEP", y.need(3), 0L);
        Check.same("need(2)", y.need(2), 0x00EE00EE00EE00EEL);
        Check.same("need(1): c below 2 and a not 0", y.need(1), 0x00000000EEEEEEEEL);
        Check.same("needAhead()", y.needAhead(), 0x00FF00FF00FF00FFL);
    }

    private static void needsOfHoles() {
        BackwardProofs x = Check.loaded("proof true eq a 2 hole");
        Check.same("need(0) of a hole", x.need(0), 0x4444444444444444L);
        filled(x, 2, -1L);
        filled(x, 1, 0L);
        filled(x, 4, 0x4444444444444444L);
        filled(x, 5, 0x0F000F000F000F00L);
        filled(x, 6, 0x0000FFFF00000000L);
        filled(x, 7, 0x2222222222222222L);
        filled(x, 8, 0x00F000F000F000F0L);
        filled(x, 9, 0x00000000FFFF0000L);
        filled(x, 10, 0x8888888888888888L);
        filled(x, 11, 0xF000F000F000F000L);
        filled(x, 12, 0xFFFF000000000000L);
        filled(x, 13, 0x4444444444444444L);
        filled(x, 38, 0x4444444444444444L);
        filled(x, -1, 0x4444444444444444L);
        BackwardProofs y = Check.loaded("proof true eq b c hole");
        filled(y, 13 + 6, -1L);
        filled(y, 13 + 2, 0x0000FFFF00000000L);
        filled(y, 26 + 5, -1L);
        filled(y, 26 + 8, 0L);
        filled(y, 26 + 9, inB(1, 2, 3, 0));
    }

    /** The states in which b is what stands at the place of c. */
    private static long inB(int c0, int c1, int c2, int c3) {
        return (0xFL << (4 * c0)) | (0xFL << (16 + 4 * c1)) | (0xFL << (32 + 4 * c2)) | (0xFL << (48 + 4 * c3));
    }

    private static void filled(BackwardProofs x, int filling, long due) {
        x.fill(0, filling);
        Check.same("need(0) with the filling " + filling, x.need(0), due);
    }

    private static void dutyAhead() {
        BackwardProofs x = Check.loaded("proof eq a 1 eq b 1 set b a");
        Check.same("failing(0)", x.failing(0), 0L);
        Check.same("duty(0, 0)", x.duty(0, 0), 0);
        Check.same("duty(0, 1)", x.duty(0, 1), -1);
        Check.same("duty(0, 2)", x.duty(0, 2), 0);
        Check.same("duty(0, 3)", x.duty(0, 3), -1);
        Check.same("trouble()", x.trouble(), -1);
        Check.setBefore(x, "true");
        Check.same("failing(0)", x.failing(0), 0xDDDDDDDDDDDDDDDDL);
        Check.same("duty(0, 2)", x.duty(0, 2), 48);
        Check.same("duty(0, 3)", x.duty(0, 3), 0);
        Check.same("trouble()", x.trouble(), 0);
        Check.setBefore(x, "and eq a 3 and eq b 3 eq c 3");
        Check.same("failing(0)", x.failing(0), Long.MIN_VALUE);
        Check.same("duty(0, 2)", x.duty(0, 2), 1);
        Check.same("duty(0, 3)", x.duty(0, 3), 63);
    }

    private static void dutiesOfLoops() {
        BackwardProofs x = Check.loaded("proof true true set c c "
                + "while lt a 3 keep lt a 2 less minus 3 a set a plus a 1 end");
        duty(x, 0, 0, -1, 0xCCCCCCCCCCCCCCCCL);
        duty(x, 1, 1, 1, 0x2222222222222222L);
        duty(x, 2, 2, 1, 0L);
        duty(x, 3, 3, 1, 0L);
        Check.same("trouble()", x.trouble(), 0);
        Check.setBefore(x, "false");
        Check.same("trouble()", x.trouble(), 1);
        Check.setKeep(x, 0, "true");
        Check.setAfter(x, "eq b 0");
        duty(x, 1, 1, 1, 0L);
        duty(x, 2, 2, 1, 0x8880888088808880L);
        Check.same("trouble()", x.trouble(), 2);
        Check.setAfter(x, "true");
        Check.setLess(x, 0, "a");
        duty(x, 3, 3, 1, 0x7777777777777777L);
        Check.same("trouble()", x.trouble(), 3);
        Check.setLess(x, 0, "3");
        duty(x, 3, 3, 1, 0x7777777777777777L);
        BackwardProofs y = Check.loaded("proof true true while lt 0 a keep true less a set a minus a 1 end "
                + "while lt 0 b keep true less b while lt 0 c keep true less b set c minus c 1 end set b minus b 1 end");
        duty(y, 4, 1, 2, 0L);
        duty(y, 7, 1, 3, 0L);
        duty(y, 9, 3, 3, 0xFFFFFFFFFFFF0000L);
        Check.same("trouble()", y.trouble(), 9);
        Check.same("value(5)", y.value(5), 1);
    }

    private static void duty(BackwardProofs x, int duty, int kind, int statement, long set) {
        Check.same("duty(" + duty + ", 0)", x.duty(duty, 0), kind);
        Check.same("duty(" + duty + ", 1)", x.duty(duty, 1), statement);
        Check.same("duty(" + duty + ", 2)", x.duty(duty, 2), Long.bitCount(set));
        Check.same("duty(" + duty + ", 3)", x.duty(duty, 3), set == 0 ? -1 : Long.numberOfTrailingZeros(set));
        Check.same("failing(" + duty + ")", x.failing(duty), set);
    }

    private static void dutiesOfEmptyRows() {
        BackwardProofs x = Check.loaded("proof false false while lt a 3 keep lt 0 a less a end");
        duty(x, 1, 1, 0, 0L);
        duty(x, 2, 2, 0, 0x8888888888888888L);
        duty(x, 3, 3, 0, 0x6666666666666666L);
    }

    private static void dutiesOfRowsWithoutEnd() {
        BackwardProofs x = Check.loaded("proof true true while true keep eq a 1 less b "
                + "while eq b 3 keep true less 0 end set b minus b 1 end");
        // with b 3 the row does not end; with b 0 LESS becomes 3
        duty(x, 3, 3, 0, 0x2002200220022002L);
        // of the inner loop: a round lessens nothing
        duty(x, 6, 3, 1, 0xF000F000F000F000L);
        duty(x, 2, 2, 0, 0L);
        // behind the inner loop a must be 1
        duty(x, 5, 2, 1, 0x0DDD0DDD0DDD0DDDL);
    }

    private static void wrongQuestions() {
        BackwardProofs x = new BackwardProofs();
        Check.throwsMissing("need(4)", () -> x.need(4));
        Check.throwsMissing("need(-1)", () -> x.need(-1));
        Check.throwsMissing("duty(4, 0)", () -> x.duty(4, 0));
        Check.throwsMissing("duty(-1, 9)", () -> x.duty(-1, 9));
        Check.throwsArgument("duty(0, 4)", () -> x.duty(0, 4));
        Check.throwsArgument("duty(3, -1)", () -> x.duty(3, -1));
        Check.throwsMissing("failing(4)", () -> x.failing(4));
        Check.throwsMissing("failing(-1)", () -> x.failing(-1));
        BackwardProofs empty = Check.loaded("proof true true");
        Check.throwsMissing("need(0)", () -> empty.need(0));
        Check.throwsMissing("duty(1, 0)", () -> empty.duty(1, 0));
        Check.throwsMissing("failing(1)", () -> empty.failing(1));
    }
}
