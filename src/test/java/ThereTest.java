/** Promises 6 to 11: value, statement, before, after, loopSet, less. */
public final class ThereTest {
    private static final String TEXT = "proof lt a b eq c 3 if lt a b set a b hole else "
            + "while eq a b keep not true less plus a c end end hole set c times 3 c while eq c 1 keep true less 2 hole end";

    private ThereTest() {
    }

    public static void main(String[] args) {
        value();
        statement();
        wrongQuestions();
        conditions();
        loops();
        Check.finish("ThereTest");
    }

    private static void value() {
        BackwardProofs x = Check.loaded(TEXT);
        values(x, 8, 2, 3, 0, 7);
        Check.same("value(6)", x.value(6), 0);
        Check.same("value(7)", x.value(7), 0);
        x.fill(2, 0);
        x.fill(0, 38);
        values(x, 8, 2, 3, 2, 7);
        Check.same("value(7)", x.value(7), 2);
        x.fill(2, BackwardProofs.NONE);
        values(x, 8, 2, 3, 1, 7);
        BackwardProofs empty = Check.loaded("proof eq a 0 eq a 0");
        values(empty, 0, 0, 0, 0, 1);
        Check.same("value(5)", empty.value(5), 0);
        Check.same("value(6)", empty.value(6), 1);
        Check.setBefore(empty, "true");
        Check.same("value(5)", empty.value(5), 1);
        Check.same("value(6)", empty.value(6), 0);
        BackwardProofs full = Check.loaded("proof true true " + "while true keep true less a ".repeat(24)
                + "end ".repeat(24));
        values(full, 24, 24, 0, 0, 73);
        // no row of these lessens anything, and that of the inner loops does not end
        Check.same("value(5)", full.value(5), 24);
        Check.throwsArgument("value(8)", () -> x.value(8));
        Check.throwsArgument("value(-1)", () -> x.value(-1));
        Check.throwsArgument("value(MIN)", () -> x.value(Integer.MIN_VALUE));
    }

    private static void values(BackwardProofs x, int... due) {
        for (int what = 0; what < due.length; what++) {
            Check.same("value(" + what + ")", x.value(what), due[what]);
        }
    }

    private static void statement() {
        BackwardProofs x = Check.loaded(TEXT);
        row(x, 0, 1, -1, 0, 2, 1, 10, 3, -1);
        row(x, 1, 0, 0, 1, 0, 0, 10, 1, -1);
        row(x, 2, 3, -1, 1, 0, 0, 10, 0, 0);
        row(x, 3, 2, -1, 1, 0, 0, 10, 8, 0);
        row(x, 4, 3, -1, 0, 0, 0, 10, 0, 1);
        row(x, 5, 0, 2, 0, 0, 0, 10, 3, -1);
        row(x, 6, 2, -1, 0, 1, 0, 10, 5, 1);
        row(x, 7, 3, -1, 1, 0, 0, 10, 0, 2);
        x.fill(1, 25);
        x.setPrice(4, 7);
        row(x, 4, 3, 1, 0, 0, 0, 7, 0, 1);
        x.fill(1, 26);
        Check.same("the variable of a filled hole", x.statement(4, 1), 2);
        x.fill(1, 12);
        Check.same("the variable of a filled hole", x.statement(4, 1), 0);
        Check.setKeep(x, 1, "and eq a b lt a c");
        Check.setLess(x, 1, "plus a times b c");
        Check.same("nodes of changed KEEP and LESS", x.statement(6, 6), 3 + 7 + 5);
    }

    private static void row(BackwardProofs x, int statement, int... due) {
        for (int what = 0; what < due.length; what++) {
            Check.same("statement(" + statement + ", " + what + ")", x.statement(statement, what), due[what]);
        }
    }

    private static void wrongQuestions() {
        BackwardProofs x = Check.loaded(TEXT);
        Check.throwsMissing("statement(8, 0)", () -> x.statement(8, 0));
        Check.throwsMissing("statement(-1, 0)", () -> x.statement(-1, 0));
        Check.throwsMissing("statement(24, 9)", () -> x.statement(24, 9));
        Check.throwsArgument("statement(0, 8)", () -> x.statement(0, 8));
        Check.throwsArgument("statement(0, -1)", () -> x.statement(0, -1));
        Check.throwsMissing("loopSet(2, 0)", () -> x.loopSet(2, 0));
        Check.throwsMissing("loopSet(-1, 5)", () -> x.loopSet(-1, 5));
        Check.throwsArgument("loopSet(1, 2)", () -> x.loopSet(1, 2));
        Check.throwsArgument("loopSet(1, -1)", () -> x.loopSet(1, -1));
        Check.throwsMissing("less(2, 0)", () -> x.less(2, 0));
        Check.throwsMissing("less(-1, 64)", () -> x.less(-1, 64));
        Check.throwsArgument("less(1, 64)", () -> x.less(1, 64));
        Check.throwsArgument("less(1, -1)", () -> x.less(1, -1));
        BackwardProofs empty = Check.loaded("proof true true");
        Check.throwsMissing("statement(0, 0)", () -> empty.statement(0, 0));
        Check.throwsMissing("less(0, 0)", () -> empty.less(0, 0));
    }

    private static void conditions() {
        condition("true", -1L);
        condition("false", 0L);
        condition("eq a 0", 0x1111111111111111L);
        condition("eq b 1", 0x00F000F000F000F0L);
        condition("eq c 3", 0xFFFF000000000000L);
        condition("eq 3 c", 0xFFFF000000000000L);
        condition("lt a 3", 0x7777777777777777L);
        condition("lt 3 a", 0L);
        condition("lt a b", 0x7310731073107310L);
        condition("lt b a", 0x08CE08CE08CE08CEL);
        condition("eq a a", -1L);
        condition("lt a a", 0L);
        condition("not eq a 0", 0xEEEEEEEEEEEEEEEEL);
        condition("and eq a 0 eq b 1", 0x0010001000100010L);
        condition("or eq a 0 eq c 3", 0xFFFF111111111111L);
        condition("eq plus a 1 0", 0x8888888888888888L);
        condition("eq minus a 1 3", 0x1111111111111111L);
        condition("eq minus 1 a 3", 0x4444444444444444L);
        condition("eq times a 2 2", 0xAAAAAAAAAAAAAAAAL);
        condition("eq times a a 1", 0xAAAAAAAAAAAAAAAAL);
        condition("eq times 3 a 1", 0x8888888888888888L);
        condition("lt plus 2 2 1", -1L);
        condition("lt minus 0 1 3", 0L);
    }

    private static void condition(String condition, long due) {
        BackwardProofs x = Check.loaded("proof " + condition + " not " + condition);
        Check.same("before() of " + condition, x.before(), due);
        Check.same("after() of not " + condition, x.after(), ~due);
    }

    private static void loops() {
        BackwardProofs x = Check.loaded(TEXT);
        Check.same("before()", x.before(), 0x7310731073107310L);
        Check.same("after()", x.after(), 0xFFFF000000000000L);
        Check.same("loopSet(0, 0)", x.loopSet(0, 0), 0x8421842184218421L);
        Check.same("loopSet(0, 1)", x.loopSet(0, 1), 0L);
        Check.same("loopSet(1, 0)", x.loopSet(1, 0), 0x00000000FFFF0000L);
        Check.same("loopSet(1, 1)", x.loopSet(1, 1), -1L);
        for (int state = 0; state < 64; state++) {
            Check.same("less(0, " + state + ")", x.less(0, state), (state % 4 + state / 16) % 4);
            Check.same("less(1, " + state + ")", x.less(1, state), 2);
        }
    }
}
