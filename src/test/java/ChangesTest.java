/** Promises 36 to 44: setBefore, setAfter, setKeep, setLess, fill, setPrice, restore, undo, save. */
public final class ChangesTest {
    private static final String TEXT = "proof lt a 3 eq b 2 hole while lt 0 a keep true less a set a minus a 1 end "
            + "while lt 0 c keep lt a 3 less c hole end";

    private ChangesTest() {
    }

    public static void main(String[] args) {
        setBeforeAndAfter();
        setKeep();
        setLess();
        errors();
        wrongLengths();
        missingLoops();
        fill();
        setPrice();
        undo();
        undoOfTen();
        whatUndoLeaves();
        saveAndRestore();
        whatRestoreLeaves();
        Check.finish("ChangesTest");
    }

    private static void setBeforeAndAfter() {
        BackwardProofs x = Check.loaded(TEXT);
        Check.same("setBefore()", Check.setBefore(x, " eq a\n1 "), 16);
        Check.same("before()", x.before(), 0x2222222222222222L);
        Check.same("after()", x.after(), 0x0F000F000F000F00L);
        Check.same("setAfter()", Check.setAfter(x, "and eq a 3 eq b 3"), 4);
        Check.same("after()", x.after(), 0x8000800080008000L);
        Check.same("before()", x.before(), 0x2222222222222222L);
        Check.same("setBefore()", Check.setBefore(x, "true"), 64);
        Check.same("setAfter()", Check.setAfter(x, "false"), 0);
        Check.same("setAfter() of 30 nodes", Check.setAfter(x, "not ".repeat(29) + "true"), 0);
        Check.same("value(7)", x.value(7), 5);
        Check.same("errorCode()", x.errorCode(), 0);
        Check.same("errorPosition()", x.errorPosition(), -1);
        Check.same("the buffer is empty", x.feed(0, 0, 0, 0, 0), 20);
        BackwardProofs y = Check.loaded(TEXT);
        Check.feed(y, "eq a 1 true");
        Check.same("setBefore() of the first bytes", y.setBefore(6), 16);
        Check.throwsArgument("setBefore(1)", () -> y.setBefore(1));
        Check.feed(y, "eq a 1 true");
        Check.same("setAfter() of the first bytes", y.setAfter(6), 16);
        Check.throwsArgument("setAfter(1)", () -> y.setAfter(1));
        Check.same("need behind the change", y.need(1), -1L);
        Check.same("duty behind the change", y.failing(5), 0x0000000000005555L);
    }

    private static void setKeep() {
        BackwardProofs x = Check.loaded(TEXT);
        Check.same("setKeep(0)", Check.setKeep(x, 0, "eq b 3"), 16);
        Check.same("loopSet(0, 1)", x.loopSet(0, 1), 0xF000F000F000F000L);
        Check.same("loopSet(1, 1)", x.loopSet(1, 1), 0x7777777777777777L);
        Check.same("need(1)", x.need(1), 0xF000F000F000F000L);
        Check.same("setKeep(1)", Check.setKeep(x, 1, "false"), 0);
        Check.same("loopSet(1, 1)", x.loopSet(1, 1), 0L);
        Check.same("loopSet(1, 0)", x.loopSet(1, 0), 0xFFFFFFFFFFFF0000L);
        Check.same("value(7)", x.value(7), 2);
        Check.same("run(3) is as before", x.run(3), 0);
        Check.same("the buffer is empty", x.feed(0, 0, 0, 0, 0), 20);
    }

    private static void setLess() {
        BackwardProofs x = Check.loaded(TEXT);
        Check.same("setLess(0)", Check.setLess(x, 0, "b"), 3);
        Check.same("less(0, 8)", x.less(0, 8), 2);
        Check.same("less(1, 8)", x.less(1, 8), 0);
        Check.same("setLess(1): in KEEP", Check.setLess(x, 1, "a"), 2);
        Check.same("setLess(1)", Check.setLess(x, 1, "1"), 1);
        Check.same("setLess(1)", Check.setLess(x, 1, "times 2 2"), 0);
        Check.setKeep(x, 1, "false");
        Check.same("setLess(1): no state", Check.setLess(x, 1, "3"), -1);
        Check.same("less(1, 0)", x.less(1, 0), 3);
        Check.same("setLess(1) of 29 nodes", Check.setLess(x, 1, "plus c ".repeat(14) + "c"), -1);
        Check.same("nodes", x.statement(3, 6), 3 + 1 + 29);
        Check.same("value(7)", x.value(7), 7);
        Check.same("the buffer is empty", x.feed(0, 0, 0, 0, 0), 20);
    }

    private static void errors() {
        conditionError("", 1, 0);
        conditionError("  ", 1, 2);
        conditionError("eq a", 1, 4);
        conditionError("eq a 1 ", 0, -1);
        conditionError("eq a 1 true", 1, 7);
        conditionError("true1", 1, 4);
        conditionError("true;", 1, 4);
        conditionError("true 9", 1, 5);
        conditionError("a", 1, 0);
        conditionError("1", 1, 0);
        conditionError("7", 1, 0);
        conditionError("proof true true", 1, 0);
        conditionError("eq a 4", 2, 5);
        conditionError("eq a 0004", 1, 5);
        conditionError("and true hole", 1, 9);
        conditionError("not ".repeat(30) + "true", 4, 120);
        expressionError("", 1, 0);
        expressionError("true", 1, 0);
        expressionError("a b", 1, 2);
        expressionError("a1", 1, 1);
        expressionError("1a", 1, 1);
        expressionError("3 3", 1, 2);
        expressionError("plus a", 1, 6);
        expressionError("4", 2, 0);
        expressionError("1000", 1, 0);
        expressionError("plus a eq", 1, 7);
        expressionError("plus a ".repeat(15) + "a", 4, 105);
        expressionError("plus a ".repeat(14) + "a", 0, -1);
    }

    private static void conditionError(String text, int code, int position) {
        BackwardProofs[] objects = {new BackwardProofs(), new BackwardProofs(), new BackwardProofs()};
        for (int which = 0; which < 3; which++) {
            BackwardProofs x = objects[which];
            int method = which;
            Check.feed(x, text);
            error(x, text, code, position, () -> {
                if (method == 0) {
                    x.setBefore(text.length());
                } else if (method == 1) {
                    x.setAfter(text.length());
                } else {
                    x.setKeep(0, text.length());
                }
            });
        }
    }

    private static void expressionError(String text, int code, int position) {
        BackwardProofs x = new BackwardProofs();
        Check.feed(x, text);
        error(x, text, code, position, () -> x.setLess(0, text.length()));
    }

    private static void error(BackwardProofs x, String text, int code, int position, Check.Call made) {
        String picture = Check.picture(x);
        if (code == 0) {
            made.make();
        } else {
            Check.throwsState("set to '" + text + "'", made);
            Check.sameText("nothing else changes", Check.picture(x), picture);
        }
        Check.same("value(7)", x.value(7), code == 0 ? 1 : 0);
        Check.same("errorCode() of '" + text + "'", x.errorCode(), code);
        Check.same("errorPosition() of '" + text + "'", x.errorPosition(), position);
        Check.same("the buffer is empty", x.feed(0, 0, 0, 0, 0), 20);
    }

    private static void wrongLengths() {
        BackwardProofs x = new BackwardProofs();
        Check.throwsState("setAfter of 'eq a'", () -> Check.setAfter(x, "eq a"));
        Check.feed(x, "true");
        int[] lengths = {-1, 21, Integer.MIN_VALUE, Integer.MAX_VALUE};
        for (int length : lengths) {
            Check.throwsArgument("setBefore(" + length + ")", () -> x.setBefore(length));
            Check.throwsArgument("setAfter(" + length + ")", () -> x.setAfter(length));
            Check.throwsArgument("setKeep(0, " + length + ")", () -> x.setKeep(0, length));
            Check.throwsArgument("setLess(0, " + length + ")", () -> x.setLess(0, length));
        }
        Check.same("errorCode()", x.errorCode(), 1);
        Check.same("errorPosition()", x.errorPosition(), 4);
        Check.same("value(7)", x.value(7), 0);
        Check.same("the buffer is as it was", x.setBefore(4), 64);
        Check.same("errorCode()", x.errorCode(), 0);
        Check.same("errorPosition()", x.errorPosition(), -1);
    }

    private static void missingLoops() {
        BackwardProofs x = new BackwardProofs();
        Check.throwsState("setAfter of 'eq a'", () -> Check.setAfter(x, "eq a"));
        Check.feed(x, "b");
        int[] loops = {-1, 1, Integer.MIN_VALUE, Integer.MAX_VALUE};
        for (int loop : loops) {
            Check.throwsMissing("setKeep(" + loop + ", 1)", () -> x.setKeep(loop, 1));
            Check.throwsMissing("setKeep(" + loop + ", 99)", () -> x.setKeep(loop, 99));
            Check.throwsMissing("setLess(" + loop + ", 1)", () -> x.setLess(loop, 1));
            Check.throwsMissing("setLess(" + loop + ", -1)", () -> x.setLess(loop, -1));
        }
        Check.same("errorPosition()", x.errorPosition(), 4);
        Check.same("the buffer is as it was", x.setLess(0, 1), 2);
        BackwardProofs none = Check.loaded("proof true true hole");
        Check.throwsMissing("setKeep(0, 0)", () -> none.setKeep(0, 0));
    }

    private static void fill() {
        BackwardProofs x = Check.loaded(TEXT);
        // the second loop ends with any b, and its hole makes nothing less
        Check.same("value(5)", x.value(5), 2);
        Check.same("fill(1, 38)", x.fill(1, 38), 1);
        Check.same("trouble(): AFTER does not come", x.trouble(), 5);
        Check.same("value(3)", x.value(3), 1);
        Check.same("fill(0, 15)", x.fill(0, 15), 1);
        Check.setKeep(x, 0, "eq b 2");
        Check.setKeep(x, 1, "and lt a 3 eq b 2");
        Check.same("fill(0, 15) again", x.fill(0, 15), 0);
        Check.same("value(6)", x.value(6), 1);
        Check.same("run(63)", x.run(63), 8);
        Check.same("fill(0, 0)", x.fill(0, 0), 1);
        Check.same("run(63)", x.run(63), 12);
        Check.same("fill(0, -1)", x.fill(0, -1), 1);
        Check.same("value(3)", x.value(3), 1);
        Check.same("value(7)", x.value(7), 7);
        int[] fillings = {-2, 39, Integer.MIN_VALUE, Integer.MAX_VALUE};
        for (int filling : fillings) {
            Check.throwsArgument("fill(0, " + filling + ")", () -> x.fill(0, filling));
            Check.throwsMissing("fill(2, " + filling + ")", () -> x.fill(2, filling));
            Check.throwsMissing("fill(-1, " + filling + ")", () -> x.fill(-1, filling));
        }
        Check.throwsMissing("fill(2, 0)", () -> x.fill(2, 0));
        Check.same("value(7)", x.value(7), 7);
    }

    private static void setPrice() {
        BackwardProofs x = new BackwardProofs();
        Check.same("setPrice(3, 99)", x.setPrice(3, 99), 10);
        Check.same("setPrice(3, 0)", x.setPrice(3, 0), 99);
        Check.same("setPrice(3, 0)", x.setPrice(3, 0), 0);
        Check.same("setPrice(0, 25)", x.setPrice(0, 25), 10);
        Check.same("statement(3, 5)", x.statement(3, 5), 0);
        Check.same("statement(0, 5)", x.statement(0, 5), 25);
        Check.same("statement(1, 5)", x.statement(1, 5), 10);
        Check.sameFloat("cost(0)", x.cost(0), 3.5f);
        Check.same("value(7)", x.value(7), 4);
        int[] prices = {-1, 100, Integer.MIN_VALUE, Integer.MAX_VALUE};
        for (int price : prices) {
            Check.throwsArgument("setPrice(0, " + price + ")", () -> x.setPrice(0, price));
            Check.throwsMissing("setPrice(4, " + price + ")", () -> x.setPrice(4, price));
            Check.throwsMissing("setPrice(-1, " + price + ")", () -> x.setPrice(-1, price));
        }
        Check.throwsMissing("setPrice(4, 0)", () -> x.setPrice(4, 0));
        Check.same("statement(0, 5)", x.statement(0, 5), 25);
        Check.same("value(7)", x.value(7), 4);
    }

    private static void undo() {
        BackwardProofs x = Check.loaded(TEXT);
        x.save(0);
        x.fill(0, 20);
        x.save(1);
        String[] pictures = new String[9];
        pictures[0] = Check.picture(x);
        Check.setBefore(x, "eq a 2");
        pictures[1] = Check.picture(x);
        Check.setAfter(x, "eq b 1");
        pictures[2] = Check.picture(x);
        Check.setKeep(x, 1, "eq c 1");
        pictures[3] = Check.picture(x);
        Check.setLess(x, 0, "times a 2");
        pictures[4] = Check.picture(x);
        x.fill(1, 38);
        pictures[5] = Check.picture(x);
        x.setPrice(2, 33);
        pictures[6] = Check.picture(x);
        x.restore(0);
        pictures[7] = Check.picture(x);
        x.fill(1, -1);
        for (int i = 7; i >= 0; i--) {
            Check.same("undo()", x.undo(), i + 1);
            Check.same("value(7)", x.value(7), i + 1);
            Check.sameText("behind undo " + i, Check.picture(x), pictures[i]);
        }
        Check.same("undo()", x.undo(), 0);
        Check.throwsState("undo()", x::undo);
        Check.sameText("at last", Check.picture(x), Check.picture(Check.loaded(TEXT)));
        Check.same("what is saved stays", x.restore(1), x.value(5));
        Check.sameText("behind restore", Check.picture(x), pictures[0]);
    }

    private static void undoOfTen() {
        BackwardProofs x = new BackwardProofs();
        for (int price = 11; price <= 23; price++) {
            x.setPrice(0, price);
            Check.same("value(7)", x.value(7), Math.min(price - 10, 10));
        }
        for (int left = 9; left >= 4; left--) {
            Check.same("undo()", x.undo(), left);
        }
        Check.same("the price", x.statement(0, 5), 17);
        for (int price = 30; price < 33; price++) {
            x.setPrice(0, price);
        }
        Check.same("value(7)", x.value(7), 7);
        for (int left = 6; left >= 0; left--) {
            Check.same("undo()", x.undo(), left);
        }
        Check.same("the price: the oldest changes stay", x.statement(0, 5), 13);
        Check.throwsState("undo()", x::undo);
        Check.same("the price", x.statement(0, 5), 13);
        x.fill(0, -1);
        Check.same("a change though all stays as it was", x.undo(), 0);
    }

    private static void whatUndoLeaves() {
        BackwardProofs x = new BackwardProofs();
        x.fill(0, 3);
        Check.same("writeNeed(1)", x.writeNeed(1), 6);
        Check.throwsState("setAfter()", () -> Check.setAfter(x, "eq 9"));
        Check.feed(x, "true");
        x.save(0);
        Check.same("undo()", x.undo(), 0);
        Check.same("errorCode()", x.errorCode(), 2);
        Check.same("errorPosition()", x.errorPosition(), 3);
        Check.sameText("the output", Check.output(x, 6), "eq b 2");
        Check.same("setBefore(): the input", x.setBefore(4), 64);
        Check.throwsState("restore(1)", () -> x.restore(1));
        x.restore(0);
        Check.same("value(3): what is saved", x.value(3), 1);
    }

    private static void saveAndRestore() {
        BackwardProofs x = Check.loaded(TEXT);
        String first = Check.picture(x);
        Check.throwsState("restore(1)", () -> x.restore(1));
        Check.same("value(7)", x.value(7), 0);
        Check.same("save(1)", x.save(1), 1);
        Check.same("save(1)", x.save(1), 1);
        Check.throwsState("restore(0)", () -> x.restore(0));
        Check.setBefore(x, "eq a 2");
        Check.setAfter(x, "true");
        Check.setKeep(x, 0, "lt a 2");
        Check.setLess(x, 1, "3");
        x.setPrice(4, 98);
        x.fill(0, 30);
        String second = Check.picture(x);
        Check.same("save(0)", x.save(0), 2);
        Check.same("value(7): no change", x.value(7), 6);
        Check.same("restore(1)", x.restore(1), 2);
        Check.sameText("behind restore(1)", Check.picture(x), first);
        Check.same("value(7)", x.value(7), 7);
        Check.same("restore(0)", x.restore(0), x.value(5));
        Check.sameText("behind restore(0)", Check.picture(x), second);
        x.restore(1);
        Check.sameText("it stays saved", Check.picture(x), first);
        Check.same("save(0) in its place", x.save(0), 2);
        x.fill(1, 0);
        x.restore(0);
        Check.sameText("behind restore(0)", Check.picture(x), first);
        Check.same("value(7)", x.value(7), 10);
        int[] slots = {-1, 2, Integer.MIN_VALUE, Integer.MAX_VALUE};
        for (int slot : slots) {
            Check.throwsArgument("save(" + slot + ")", () -> x.save(slot));
            Check.throwsArgument("restore(" + slot + ")", () -> x.restore(slot));
        }
        Check.load(x, TEXT);
        Check.throwsState("restore(0): nothing is saved", () -> x.restore(0));
        Check.throwsState("restore(1): nothing is saved", () -> x.restore(1));
        Check.same("save(0)", x.save(0), 1);
    }

    private static void whatRestoreLeaves() {
        BackwardProofs x = new BackwardProofs();
        x.save(0);
        x.fill(0, 14);
        Check.same("writeNeed(1)", x.writeNeed(1), 6);
        Check.throwsState("setAfter()", () -> Check.setAfter(x, "eq 9"));
        Check.feed(x, "true");
        Check.same("restore(0)", x.restore(0), 0);
        Check.same("errorCode()", x.errorCode(), 2);
        Check.sameText("the output", Check.output(x, 6), "eq b 2");
        Check.same("setBefore(): the input", x.setBefore(4), 64);
        Check.same("undo()", x.undo(), 2);
        Check.same("undo(): what was ahead of restore", x.undo(), 1);
        Check.same("value(3)", x.value(3), 1);
        Check.same("value(5)", x.value(5), 1);
    }
}
