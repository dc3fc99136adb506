/** Promises 1 to 5: the new object, feed, load, errorCode, errorPosition. */
public final class InputTest {
    private static final String FIRST =
            "proof lt a 3 and eq a 0 eq b 2 set b 2 while lt 0 a keep eq b 2 less a set a minus a 1 end hole";
    private static final String AHEAD = "proof true true ";

    private InputTest() {
    }

    public static void main(String[] args) {
        newObject();
        feed();
        feedOrder();
        load();
        loadBehindFailingDuties();
        loadOfWrongLength();
        loadWithError();
        errorsOfTokens();
        errorsOfGrammar();
        errorsOfEnds();
        errorsOfQuantities();
        errorsInOrder();
        textsWithoutError();
        Check.finish("InputTest");
    }

    private static void newObject() {
        BackwardProofs x = new BackwardProofs();
        Check.same("NONE", BackwardProofs.NONE, -1);
        Check.same("errorCode()", x.errorCode(), 0);
        Check.same("errorPosition()", x.errorPosition(), -1);
        Check.same("value(7)", x.value(7), 0);
        Check.throwsIndex("outputByte(0)", () -> x.outputByte(0));
        Check.throwsState("undo()", x::undo);
        Check.throwsState("restore(0)", () -> x.restore(0));
        Check.throwsArgument("load(1)", () -> x.load(1));
        Check.same("feed", x.feed(1, 2, 3, 4, 5), 20);
        Check.sameText("picture", Check.picture(new BackwardProofs()), Check.picture(Check.loaded(FIRST)));
        Check.sameText("writeNeed(3)", Check.written(x, 3), "and eq a 0 eq b 2");
        Check.sameText("writeNeed(1)", Check.written(x, 1), "eq b 2");
        Check.same("value(6)", x.value(6), 1);
        Check.same("before()", x.before(), 0x7777777777777777L);
        Check.same("after()", x.after(), 0x0100010001000100L);
    }

    private static void feed() {
        BackwardProofs x = new BackwardProofs();
        for (int length = 20; length <= 800; length += 20) {
            Check.same("feed", x.feed(0, 0, 0, 0, 0), length);
        }
        Check.throwsState("feed of 820 bytes", () -> x.feed(0, 0, 0, 0, 0));
        Check.throwsState("feed of 820 bytes", () -> x.feed(-1, -1, -1, -1, -1));
        Check.throwsArgument("load(801)", () -> x.load(801));
        Check.throwsState("load(800)", () -> x.load(800));
        Check.same("feed", x.feed(0, 0, 0, 0, 0), 20);
    }

    private static void feedOrder() {
        BackwardProofs x = new BackwardProofs();
        // proo, f tr, ue t, rue , hole
        Check.same("feed", x.feed(0x70726F6F, 0x66207472, 0x75652074, 0x72756520, 0x686F6C65), 20);
        Check.same("load", x.load(20), 1);
        Check.same("kind", x.statement(0, 0), 3);
        // the sign bit of each byte
        x.feed(0x70726F6F, 0x660A7472, 0x7565FF74, 0x72756520, 0x686F6C65);
        Check.throwsState("load", () -> x.load(20));
        Check.same("errorPosition()", x.errorPosition(), 10);
        // a text of 800 bytes
        StringBuilder text = new StringBuilder("proof true true hole");
        while (text.length() < 796) {
            text.append(' ');
        }
        Check.same("load of 800 bytes", Check.load(x, text + "hole"), 2);
    }

    private static void load() {
        BackwardProofs x = new BackwardProofs();
        Check.same("writeNeed(3)", x.writeNeed(3), 17);
        x.setPrice(0, 99);
        x.fill(0, 5);
        x.save(0);
        x.save(1);
        Check.throwsState("setAfter", () -> Check.setAfter(x, "eq"));
        Check.same("load", Check.load(x, "proof eq a 0 true set c 1 hole"), 2);
        Check.same("errorCode()", x.errorCode(), 0);
        Check.same("errorPosition()", x.errorPosition(), -1);
        Check.same("value(0)", x.value(0), 2);
        Check.same("value(1)", x.value(1), 0);
        Check.same("value(3)", x.value(3), 0);
        Check.same("value(7)", x.value(7), 0);
        Check.same("price", x.statement(0, 5), 10);
        Check.same("trouble()", x.trouble(), -1);
        Check.same("before()", x.before(), 0x1111111111111111L);
        Check.throwsState("undo()", x::undo);
        Check.throwsState("restore(0)", () -> x.restore(0));
        Check.throwsState("restore(1)", () -> x.restore(1));
        Check.same("save(1)", x.save(1), 1);
        Check.sameText("the output stays", Check.output(x, 17), "and eq a 0 eq b 2");
        Check.throwsIndex("outputByte(17)", () -> x.outputByte(17));
        Check.throwsArgument("load(1): the buffer is empty", () -> x.load(1));
        Check.feed(x, "proof true true hole hole hole");
        Check.same("load of the first bytes", x.load(25), 2);
        Check.same("feed", x.feed(0, 0, 0, 0, 0), 20);
    }

    private static void loadBehindFailingDuties() {
        BackwardProofs x = Check.loaded("proof true false while true keep true less 0 end while true keep true less 0 end");
        Check.same("value(5)", x.value(5), 2);
        Check.same("trouble()", x.trouble(), 3);
        Check.load(x, "proof true true");
        Check.same("value(5)", x.value(5), 0);
        Check.same("value(6)", x.value(6), 1);
        Check.same("trouble()", x.trouble(), -1);
    }

    private static void loadOfWrongLength() {
        BackwardProofs x = new BackwardProofs();
        Check.throwsState("load(0)", () -> x.load(0));
        Check.same("errorCode()", x.errorCode(), 1);
        Check.same("errorPosition()", x.errorPosition(), 0);
        Check.feed(x, AHEAD);
        Check.throwsArgument("load(21)", () -> x.load(21));
        Check.throwsArgument("load(-1)", () -> x.load(-1));
        Check.throwsArgument("load(MIN)", () -> x.load(Integer.MIN_VALUE));
        Check.throwsArgument("load(MAX)", () -> x.load(Integer.MAX_VALUE));
        Check.same("errorCode()", x.errorCode(), 1);
        Check.same("errorPosition()", x.errorPosition(), 0);
        Check.same("load(15): the buffer is as it was", x.load(15), 0);
        Check.same("errorCode()", x.errorCode(), 0);
    }

    private static void loadWithError() {
        BackwardProofs x = new BackwardProofs();
        x.writeNeed(2);
        x.fill(0, 3);
        x.save(1);
        x.setPrice(1, 0);
        String picture = Check.picture(x);
        Check.throwsState("load", () -> Check.load(x, "proof true true hole hole hole set"));
        Check.same("errorCode()", x.errorCode(), 1);
        Check.same("errorPosition()", x.errorPosition(), 34);
        Check.sameText("picture", Check.picture(x), picture);
        Check.same("value(7)", x.value(7), 2);
        Check.sameText("the output stays", Check.output(x, 6), "eq b 2");
        Check.throwsArgument("load(1): the buffer is empty", () -> x.load(1));
        Check.same("undo()", x.undo(), 1);
        Check.same("restore(1)", x.restore(1), x.value(5));
    }

    private static void errorsOfTokens() {
        Check.refused(AHEAD + "set a 1b", 1, 23);
        Check.refused(AHEAD + "set a1", 1, 21);
        Check.refused(AHEAD + "set a b1", 1, 23);
        Check.refused(AHEAD + "set a b9", 1, 23);
        Check.refused(AHEAD + "set a 0012", 1, 22);
        Check.refused(AHEAD + "set a 0000", 1, 22);
        Check.refused(AHEAD + "set a 12345678901234567890", 1, 22);
        Check.refused(AHEAD + "set a 4", 2, 22);
        Check.refused(AHEAD + "set a 004", 2, 22);
        Check.refused(AHEAD + "set a 999", 2, 22);
        Check.refused(AHEAD + "set a 10", 2, 22);
        Check.refused(AHEAD + "set a\t1", 1, 21);
        Check.refused(AHEAD + "set a\r1", 1, 21);
        Check.refused(AHEAD + "Set a 1", 1, 16);
        Check.refused(AHEAD + "set a -1", 1, 22);
        Check.refused(AHEAD + "set a \u00e9", 1, 22);
        Check.refused(AHEAD + "\0", 1, 16);
        Check.refused(AHEAD + "set a " + "plus ".repeat(15) + "1b", 1, 98);
        Check.refused(AHEAD + "set a " + "plus ".repeat(15) + "1 ;", 1, 99);
        Check.refused("proof truez true", 1, 6);
        Check.refused("proof true{ true", 1, 10);
        Check.refused("proof true eq a 0: true", 1, 17);
        Check.refused("proof true eq a 0/ true", 1, 17);
        Check.refused("prooftrue true", 1, 0);
        Check.refused("proof true truehole", 1, 11);
        Check.refused("proof true tru", 1, 11);
        Check.refused("proof true truex", 1, 11);
        Check.refused("`roof", 1, 0);
        Check.refused("{", 1, 0);
        Check.refused("proof true eq a /", 1, 16);
        Check.refused("proof true eq a :", 1, 16);
    }

    private static void errorsOfGrammar() {
        Check.refused("true true", 1, 0);
        Check.refused("  hole", 1, 2);
        Check.refused("proof a true", 1, 6);
        Check.refused("proof 1 true", 1, 6);
        Check.refused("proof 9 true", 1, 6);
        Check.refused("proof true eq true a", 1, 14);
        Check.refused("proof true eq a eq", 1, 16);
        Check.refused("proof true not a", 1, 15);
        Check.refused("proof true and true set a 1", 1, 20);
        Check.refused(AHEAD + "proof", 1, 16);
        Check.refused(AHEAD + "7", 1, 16);
        Check.refused(AHEAD + "else", 1, 16);
        Check.refused(AHEAD + "end", 1, 16);
        Check.refused(AHEAD + "set 1 a", 1, 20);
        Check.refused(AHEAD + "set d 1", 1, 20);
        Check.refused(AHEAD + "set a true", 1, 22);
        Check.refused(AHEAD + "set a hole", 1, 22);
        Check.refused(AHEAD + "hole 1", 1, 21);
        Check.refused(AHEAD + "if a else end", 1, 19);
        Check.refused(AHEAD + "if true end", 1, 24);
        Check.refused(AHEAD + "if true hole end", 1, 29);
        Check.refused(AHEAD + "if true else else end", 1, 29);
        Check.refused(AHEAD + "if true else end end", 1, 33);
        Check.refused(AHEAD + "while true less a end", 1, 27);
        Check.refused(AHEAD + "while true keep true end", 1, 37);
        Check.refused(AHEAD + "while true keep true less true end", 1, 42);
        Check.refused(AHEAD + "while true keep 0 less 0 end", 1, 32);
        Check.refused(AHEAD + "while true keep true less 0 else end", 1, 44);
        // behind an inner statement the row of the outer one goes on
        Check.refused(AHEAD + "if true else if true else end else end", 1, 46);
        Check.refused(AHEAD + "if true if true else end end", 1, 41);
        Check.refused(AHEAD + "while true keep true less 0 if true else end else end", 1, 61);
    }

    private static void errorsOfEnds() {
        Check.refused("", 1, 0);
        Check.refused(" \n ", 1, 3);
        Check.refused("proof", 1, 5);
        Check.refused("proof true  ", 1, 12);
        Check.refused(AHEAD + "set", 1, 19);
        Check.refused(AHEAD + "set a plus 1 \n", 1, 30);
        Check.refused(AHEAD + "if true", 1, 23);
        Check.refused(AHEAD + "if true else", 1, 28);
        Check.refused(AHEAD + "if true else hole\n", 1, 34);
        Check.refused(AHEAD + "while true keep true less 0 hole", 1, 48);
        Check.refused(AHEAD + "while true keep true less 0 if true else end", 1, 60);
    }

    private static void errorsOfQuantities() {
        String many = AHEAD + "hole ".repeat(24);
        Check.refused(many + "hole", 3, 136);
        Check.refused(many + "set 1", 3, 136);
        Check.refused(many + "while", 3, 136);
        Check.refused(many + "  if", 3, 138);
        Check.refused(many + "end", 1, 136);
        Check.refused(many + "holes", 1, 136);
        Check.refused(AHEAD + "if true " + "hole ".repeat(23) + "else set a 1 end", 3, 144);
        String nots = "proof true " + "not ".repeat(30);
        Check.refused(nots + "true", 4, 131);
        Check.refused(nots + "hole", 1, 131);
        Check.refused(nots, 1, 131);
        String sum = AHEAD + "set a " + "plus a ".repeat(15);
        Check.refused(sum + "a", 4, 127);
        Check.refused(sum + "3", 4, 127);
        Check.refused(sum + "4", 2, 127);
        Check.refused(sum + "true", 1, 127);
        Check.refused(AHEAD + "while " + "not ".repeat(30) + "true", 4, 142);
        Check.refused(AHEAD + "while true keep " + "not ".repeat(30) + "true", 4, 152);
        Check.refused(AHEAD + "while true keep true less " + "plus a ".repeat(15) + "a", 4, 147);
        Check.refused(AHEAD + "if " + "not ".repeat(30) + "true", 4, 139);
        Check.refused("proof " + "not ".repeat(30) + "true", 4, 126);
    }

    private static void errorsInOrder() {
        Check.refused("proof true eq a 4 ; hole", 2, 16);
        Check.refused("proof true; eq a 4", 1, 10);
        Check.refused(AHEAD + "set a 9x", 2, 22);
        Check.refused(AHEAD + "set a 9 9", 2, 22);
        Check.refused(AHEAD + "hole ".repeat(24) + "set a 4", 3, 136);
        Check.refused(AHEAD + "set a 4 " + "hole ".repeat(24), 2, 22);
    }

    private static void textsWithoutError() {
        BackwardProofs x = new BackwardProofs();
        Check.same("no statement", Check.load(x, "\n proof\n\ntrue  true \n"), 0);
        Check.same("needAhead()", x.needAhead(), -1L);
        Check.same("three digits", Check.load(x, AHEAD + "set a 003 set b 01"), 2);
        Check.same("run", x.run(0), 7);
        Check.same("24 statements", Check.load(x, AHEAD + "hole ".repeat(24)), 24);
        Check.same("24 in others", Check.load(x, AHEAD + "if true ".repeat(24) + "else end ".repeat(24)), 24);
        Check.same("depth", x.statement(23, 2), 23);
        String nots = "not ".repeat(29) + "true ";
        Check.same("30 nodes each", Check.load(x, "proof " + nots + nots + "while " + nots + "keep " + nots + "less 1 end"),
                1);
        Check.same("nodes", x.statement(0, 6), 61);
        Check.same("29 nodes", Check.load(x, AHEAD + "set a " + "plus a ".repeat(14) + "a"), 1);
        Check.same("nodes", x.statement(0, 6), 29);
        Check.same("an if behind a hole in a second row",
                Check.load(x, AHEAD + "if true else hole if true else end hole end"), 4);
        Check.same("second row", x.statement(0, 4), 3);
        Check.same("rows", Check.load(x, AHEAD + "if true hole if true else hole end hole else set a 1 end hole"), 7);
        Check.same("first row", x.statement(0, 3), 3);
        Check.same("second row", x.statement(0, 4), 1);
    }
}
