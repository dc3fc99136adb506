/** Promises 1 to 5, the input: a case for each boundary that their sentences name. */
public final class Promises01To05Test {
    private static final String AHEAD = "proof true true ";

    private Promises01To05Test() {
    }

    public static void main(String[] args) {
        Cases.run(Promises01To05Test.class);
    }

    // ---- Promise 1: a new object

    @Says("Creates the proof that is described above.")
    static void promise01_theProgramOfANewObject() {
        BackwardProofs x = new BackwardProofs();
        int[] kinds = {0, 2, 0, 3};
        Check.same("value(0)", x.value(0), 4);
        for (int statement = 0; statement < 4; statement++) {
            Check.same("kind of " + statement, x.statement(statement, 0), kinds[statement]);
        }
        Check.same("before()", x.before(), Check.states(s -> Check.a(s) < 3));
        Check.same("after()", x.after(), Check.states(s -> Check.a(s) == 0 && Check.b(s) == 2));
        Check.same("loopSet(0, 0)", x.loopSet(0, 0), Check.states(s -> Check.a(s) > 0));
        Check.same("loopSet(0, 1)", x.loopSet(0, 1), Check.states(s -> Check.b(s) == 2));
        Check.same("less(0, 63)", x.less(0, 63), 3);
        Check.same("value(6)", x.value(6), 1);
    }

    @Says("Creates the proof that is described above.")
    static void promise01_aNewObjectHasNoError() {
        BackwardProofs x = new BackwardProofs();
        Check.same("errorCode()", x.errorCode(), 0);
        Check.same("errorPosition()", x.errorPosition(), -1);
    }

    @Says("Creates the proof that is described above.")
    static void promise01_aNewObjectHasNothingToUndoAndNothingSaved() {
        BackwardProofs x = new BackwardProofs();
        Check.same("value(7)", x.value(7), 0);
        Check.throwsState("undo()", x::undo);
        Check.throwsState("restore(0)", () -> x.restore(0));
        Check.throwsState("restore(1)", () -> x.restore(1));
        Check.same("save(0): the first", x.save(0), 1);
    }

    @Says("Creates the proof that is described above.")
    static void promise01_objectsShareNothing() {
        BackwardProofs x = new BackwardProofs();
        BackwardProofs y = new BackwardProofs();
        Check.feed(x, "eq a");
        Check.throwsState("setBefore(4)", () -> x.setBefore(4));
        Check.load(x, "proof true true hole");
        x.writeNeed(0);
        x.save(0);
        x.fill(0, 3);
        Check.sameText("the other object", Check.picture(y), Check.picture(new BackwardProofs()));
        Check.same("errorCode() of the other", y.errorCode(), 0);
        Check.throwsIndex("outputByte(0) of the other", () -> y.outputByte(0));
        Check.throwsState("restore(0) of the other", () -> y.restore(0));
    }

    // ---- Promise 2: feed

    @Says("Appends 20 bytes to the input buffer:")
    static void promise02_eachCallAppends20Bytes() {
        BackwardProofs x = new BackwardProofs();
        Check.throwsArgument("load(1) ahead of it", () -> x.load(1));
        x.feed(0x20202020, 0x20202020, 0x20202020, 0x20202020, 0x20202020);
        Check.throwsArgument("load(21)", () -> x.load(21));
        Check.throwsState("load(20)", () -> x.load(20));
        Check.same("errorPosition()", x.errorPosition(), 20);
    }

    @Says("Appends 20 bytes to the input buffer:")
    static void promise02_theBytesComeBehindThoseThatAreThere() {
        BackwardProofs x = new BackwardProofs();
        // proo, f tr, ue t, rue , set
        x.feed(0x70726F6F, 0x66207472, 0x75652074, 0x72756520, 0x73657420);
        // a pl, us c,  1  , then nothing but spaces
        x.feed(0x6120706C, 0x75732063, 0x20312020, 0x20202020, 0x20202020);
        Check.same("load(40)", x.load(40), 1);
        Check.same("run(16)", x.run(16), 18);
    }

    @Says("the four bytes of each parameter in order, the most significant byte first.")
    static void promise02_thePlaceOfEachOfThe20Bytes() {
        for (int place = 0; place < 20; place++) {
            int[] fed = {0x20202020, 0x20202020, 0x20202020, 0x20202020, 0x20202020};
            fed[place / 4] ^= 0x1B << (24 - place % 4 * 8);
            BackwardProofs x = new BackwardProofs();
            x.feed(fed[0], fed[1], fed[2], fed[3], fed[4]);
            Check.throwsState("load(20)", () -> x.load(20));
            Check.same("the place of the one that is no space", x.errorPosition(), place);
        }
    }

    @Says("the four bytes of each parameter in order, the most significant byte first.")
    static void promise02_bytesWithTheirHighBitSpoilNoOthers() {
        BackwardProofs x = new BackwardProofs();
        x.feed(0x20202080, 0xFF202020, 0x20202020, 0x20202020, 0x20202020);
        Check.throwsState("load(20)", () -> x.load(20));
        Check.same("errorPosition()", x.errorPosition(), 3);
        x.feed(0x20202020, 0xFF202020, 0x20202020, 0x20202020, 0x20202020);
        Check.throwsState("load(20)", () -> x.load(20));
        Check.same("errorPosition()", x.errorPosition(), 4);
        x.feed(Integer.MIN_VALUE, -1, Integer.MAX_VALUE, 0, 1);
        Check.throwsState("load(20)", () -> x.load(20));
        Check.same("errorPosition()", x.errorPosition(), 0);
    }

    @Says("Returns the new length of the buffer.")
    static void promise02_theLengthRisesFrom20To800() {
        BackwardProofs x = new BackwardProofs();
        for (int length = 20; length <= 800; length += 20) {
            Check.same("feed()", x.feed(1, 2, 3, 4, 5), length);
        }
    }

    @Says("Returns the new length of the buffer.")
    static void promise02_theLengthBeginsAnewWhereTheBufferWasEmptied() {
        BackwardProofs x = new BackwardProofs();
        Check.feed(x, AHEAD + "hole hole");
        x.load(25);
        Check.same("feed() behind a load", x.feed(0, 0, 0, 0, 0), 20);
        Check.throwsState("load(20)", () -> x.load(20));
        Check.same("feed() behind a load with an error", x.feed(0, 0, 0, 0, 0), 20);
        Check.throwsArgument("load(21)", () -> x.load(21));
        Check.same("feed() behind a load of a wrong length", x.feed(0, 0, 0, 0, 0), 40);
    }

    @Says("Throws `IllegalStateException` if the length would exceed 800;")
    static void promise02_aLengthOf800IsReachedAndNotExceeded() {
        BackwardProofs x = full();
        Check.throwsState("feed() beyond 800", () -> x.feed(0, 0, 0, 0, 0));
        Check.throwsState("feed() beyond 800, once more", () -> x.feed(-1, -1, -1, -1, -1));
        Check.throwsArgument("load(801)", () -> x.load(801));
    }

    @Says("nothing is appended then")
    static void promise02_nothingIsAppendedBeyond800() {
        BackwardProofs x = full();
        Check.throwsState("feed() beyond 800", () -> x.feed(-1, -1, -1, -1, -1));
        Check.throwsArgument("load(801)", () -> x.load(801));
        Check.throwsArgument("load(820)", () -> x.load(820));
        Check.same("load(800): what was fed first", x.load(800), 2);
        Check.same("feed()", x.feed(0, 0, 0, 0, 0), 20);
    }

    /** An object whose buffer has 800 bytes: two holes, the second one at the very end. */
    private static BackwardProofs full() {
        BackwardProofs x = new BackwardProofs();
        Check.same("feed()", Check.feed(x, AHEAD + "hole" + " ".repeat(776) + "hole"), 800);
        return x;
    }

    // ---- Promise 3: load

    @Says("Parses the first length bytes of the buffer as a description.")
    static void promise03_bytesBehindTheLengthAreNotParsed() {
        BackwardProofs x = new BackwardProofs();
        Check.feed(x, AHEAD + "hole;;;;");
        Check.same("load(20)", x.load(20), 1);
        Check.feed(x, AHEAD + "hole");
        Check.throwsState("load(19): hol", () -> x.load(19));
        Check.same("errorPosition()", x.errorPosition(), 16);
        Check.feed(x, AHEAD + "hole hole");
        Check.same("load(16): none of the holes", x.load(16), 0);
    }

    @Says("Parses the first length bytes of the buffer as a description.")
    static void promise03_aLengthOf0IsAnEmptyText() {
        BackwardProofs x = new BackwardProofs();
        Check.feed(x, "proof true true");
        Check.throwsState("load(0)", () -> x.load(0));
        Check.same("errorCode()", x.errorCode(), 1);
        Check.same("errorPosition()", x.errorPosition(), 0);
        Check.throwsState("load(0) of the empty buffer", () -> x.load(0));
    }

    @Says("Parses the first length bytes of the buffer as a description.")
    static void promise03_aTextOf800Bytes() {
        BackwardProofs x = new BackwardProofs();
        String text = AHEAD + "set a 1" + " ".repeat(770) + "set b 2";
        Check.same("load(800)", Check.load(x, text), 2);
        Check.same("run(0)", x.run(0), 9);
    }

    @Says("Without an error, it replaces everything;")
    static void promise03_loadReplacesConditionsAndStatements() {
        BackwardProofs x = Check.loaded("proof false false if true hole else set c 3 end while false keep false less 3 "
                + "hole end");
        Check.load(x, "proof eq a 3 lt b 2 while eq c 1 keep eq c 2 less b set b 1 end hole");
        Check.sameText("the picture", Check.picture(x),
                Check.picture(Check.loaded("proof eq a 3 lt b 2 while eq c 1 keep eq c 2 less b set b 1 end hole")));
    }

    @Says("Without an error, it replaces everything;")
    static void promise03_loadReplacesEvenByTheSame() {
        BackwardProofs x = Check.loaded("proof true true hole");
        x.setPrice(0, 99);
        x.fill(0, 20);
        Check.setBefore(x, "false");
        Check.load(x, "proof true true hole");
        Check.same("price", x.statement(0, 5), 10);
        Check.same("filled holes", x.value(3), 0);
        Check.same("before()", x.before(), -1L);
    }

    @Says("Without an error, it replaces everything;")
    static void promise03_aGreatProgramIsReplacedByASmallOneAndBack() {
        String great = "proof true true " + "while true keep true less a ".repeat(24) + "end ".repeat(24);
        BackwardProofs x = Check.loaded(great);
        Check.load(x, "proof true true");
        Check.sameText("the picture", Check.picture(x), Check.picture(Check.loaded("proof true true")));
        Check.throwsMissing("need(0)", () -> x.need(0));
        Check.throwsMissing("rounds(0)", () -> x.rounds(0));
        Check.throwsMissing("failing(1)", () -> x.failing(1));
        Check.load(x, great);
        Check.sameText("the picture", Check.picture(x), Check.picture(Check.loaded(great)));
    }

    @Says("Without an error, it replaces everything;")
    static void promise03_loadReplacesTheErrorOfATextBefore() {
        BackwardProofs x = new BackwardProofs();
        Check.throwsState("load()", () -> Check.load(x, "proof 7"));
        Check.load(x, "proof true true");
        Check.same("errorCode()", x.errorCode(), 0);
        Check.same("errorPosition()", x.errorPosition(), -1);
    }

    @Says("no change can be undone, and nothing is saved;")
    static void promise03_noChangeCanBeUndoneBehindALoad() {
        BackwardProofs x = new BackwardProofs();
        for (int i = 0; i < 12; i++) {
            x.setPrice(0, i);
        }
        Check.load(x, "proof true true hole");
        Check.same("value(7)", x.value(7), 0);
        Check.throwsState("undo()", x::undo);
        x.setPrice(0, 3);
        Check.same("value(7) behind the next change", x.value(7), 1);
        Check.same("undo()", x.undo(), 0);
        Check.same("the price", x.statement(0, 5), 10);
    }

    @Says("no change can be undone, and nothing is saved;")
    static void promise03_nothingIsSavedBehindALoad() {
        BackwardProofs x = new BackwardProofs();
        x.save(0);
        x.save(1);
        Check.load(x, "proof true true hole");
        Check.throwsState("restore(0)", () -> x.restore(0));
        Check.throwsState("restore(1)", () -> x.restore(1));
        Check.same("save(1): alone", x.save(1), 1);
    }

    @Says("only the output buffer stays.")
    static void promise03_theOutputStaysBehindALoad() {
        BackwardProofs x = new BackwardProofs();
        Check.same("writeNeed(3)", x.writeNeed(3), 17);
        Check.load(x, "proof true true");
        Check.sameText("the output", Check.output(x, 17), "and eq a 0 eq b 2");
        Check.throwsIndex("outputByte(17)", () -> x.outputByte(17));
    }

    private static final String EMPTIED = "The input buffer is emptied unless an IllegalArgumentException is thrown.";

    @Says(EMPTIED)
    static void promise03_theBufferIsEmptiedBehindALoad() {
        BackwardProofs x = new BackwardProofs();
        Check.feed(x, AHEAD + "hole hole hole");
        Check.same("load(20) of 40 bytes", x.load(20), 1);
        Check.throwsArgument("load(1)", () -> x.load(1));
        Check.same("feed()", x.feed(0, 0, 0, 0, 0), 20);
    }

    @Says(EMPTIED)
    static void promise03_theBufferIsEmptiedBehindAnError() {
        BackwardProofs x = new BackwardProofs();
        Check.feed(x, "wrong");
        Check.throwsState("load(5)", () -> x.load(5));
        Check.throwsArgument("load(1)", () -> x.load(1));
        Check.same("feed()", x.feed(0, 0, 0, 0, 0), 20);
        Check.throwsState("load(0)", () -> x.load(0));
        Check.throwsArgument("load(1) behind an empty text", () -> x.load(1));
    }

    @Says(EMPTIED)
    static void promise03_theBufferStaysBehindAWrongLength() {
        BackwardProofs x = new BackwardProofs();
        Check.feed(x, AHEAD + "hole");
        Check.throwsArgument("load(21)", () -> x.load(21));
        Check.throwsArgument("load(-1)", () -> x.load(-1));
        Check.same("load(20)", x.load(20), 1);
    }

    @Says("number of bytes, 0 to the length of the buffer")
    static void promise03_theLeastAndTheGreatestLength() {
        BackwardProofs x = new BackwardProofs();
        Check.throwsState("load(0) is in range", () -> x.load(0));
        Check.feed(x, AHEAD + "hole");
        Check.same("load(20), the buffer's length", x.load(20), 1);
    }

    @Says("Returns the quantity of statements.")
    static void promise03_theLeastAndTheGreatestQuantity() {
        BackwardProofs x = new BackwardProofs();
        Check.same("none", Check.load(x, "proof true true"), 0);
        Check.same("one", Check.load(x, AHEAD + "set a 1"), 1);
        Check.same("24", Check.load(x, AHEAD + "hole ".repeat(24)), 24);
        Check.same("24 in one another", Check.load(x, AHEAD + "if true ".repeat(24) + "else end ".repeat(24)), 24);
    }

    @Says("Throws `IllegalArgumentException` if length is out of range;")
    static void promise03_lengthsOutOfRange() {
        BackwardProofs x = new BackwardProofs();
        Check.throwsArgument("load(1) of the empty buffer", () -> x.load(1));
        Check.feed(x, AHEAD + "hole");
        int[] lengths = {-1, 21, 800, Integer.MIN_VALUE, Integer.MAX_VALUE};
        for (int length : lengths) {
            Check.throwsArgument("load(" + length + ")", () -> x.load(length));
        }
        Check.same("value(0): the program stays", x.value(0), 4);
    }

    @Says("errorCode() and errorPosition() do not change then")
    static void promise03_theErrorStaysBehindAWrongLength() {
        BackwardProofs x = new BackwardProofs();
        Check.throwsArgument("load(1)", () -> x.load(1));
        Check.same("errorCode()", x.errorCode(), 0);
        Check.same("errorPosition()", x.errorPosition(), -1);
        Check.throwsState("load()", () -> Check.load(x, "proof eq 9"));
        Check.throwsArgument("load(1)", () -> x.load(1));
        Check.throwsArgument("load(-1)", () -> x.load(-1));
        Check.same("errorCode()", x.errorCode(), 2);
        Check.same("errorPosition()", x.errorPosition(), 9);
    }

    @Says("Throws `IllegalStateException` if the text has an error;")
    static void promise03_eachKindOfErrorIsRefused() {
        Check.refused(AHEAD + "set a 1 1", 1, 24);
        Check.refused(AHEAD + "set a 4", 2, 22);
        Check.refused(AHEAD + "hole ".repeat(25), 3, 136);
        Check.refused("proof " + "not ".repeat(30) + "true true", 4, 126);
    }

    @Says("Throws `IllegalStateException` if the text has an error;")
    static void promise03_anErrorAtTheVeryEndIsRefused() {
        Check.refused("proof true true" + " ".repeat(784) + ";", 1, 799);
        Check.refused("proof true" + " ".repeat(790), 1, 800);
    }

    @Says("then only the input buffer, errorCode() and errorPosition() change")
    static void promise03_nothingElseChangesBehindAnError() {
        BackwardProofs x = new BackwardProofs();
        x.save(1);
        x.fill(0, 3);
        x.setPrice(2, 77);
        x.writeNeed(1);
        String picture = Check.picture(x);
        Check.throwsState("load()", () -> Check.load(x, "proof eq a 1 eq b 1 hole set c 1 while true keep true less 0"));
        Check.sameText("the picture", Check.picture(x), picture);
        Check.same("value(7)", x.value(7), 2);
        Check.sameText("the output", Check.output(x, 6), "eq b 2");
        Check.throwsIndex("outputByte(6)", () -> x.outputByte(6));
        Check.throwsState("restore(0)", () -> x.restore(0));
        x.restore(1);
        Check.sameText("what is saved", Check.picture(x), Check.picture(new BackwardProofs()));
        x.undo();
        Check.same("undo()", x.undo(), 1);
        Check.same("undo()", x.undo(), 0);
    }

    // ---- Promises 4 and 5: errorCode, errorPosition

    @Says("Returns the code of the error found by the latest call that parsed a text;")
    static void promise04_eachOfTheFourCodes() {
        BackwardProofs x = new BackwardProofs();
        Check.throwsState("SYNTAX", () -> Check.setBefore(x, "a"));
        Check.same("errorCode()", x.errorCode(), 1);
        Check.throwsState("RANGE", () -> Check.setBefore(x, "eq a 4"));
        Check.same("errorCode()", x.errorCode(), 2);
        Check.throwsState("MANY", () -> Check.load(x, AHEAD + "hole ".repeat(25)));
        Check.same("errorCode()", x.errorCode(), 3);
        Check.throwsState("LARGE", () -> Check.setBefore(x, "not ".repeat(30) + "true"));
        Check.same("errorCode()", x.errorCode(), 4);
    }

    @Says("Returns the code of the error found by the latest call that parsed a text;")
    static void promise04_eachMethodThatParsesTellsItsError() {
        BackwardProofs x = new BackwardProofs();
        Check.throwsState("load()", () -> Check.load(x, AHEAD + "hole ".repeat(25)));
        Check.same("errorCode() of load()", x.errorCode(), 3);
        Check.throwsState("setBefore()", () -> Check.setBefore(x, "eq 4 4"));
        Check.same("errorCode() of setBefore()", x.errorCode(), 2);
        Check.throwsState("setAfter()", () -> Check.setAfter(x, "eq"));
        Check.same("errorCode() of setAfter()", x.errorCode(), 1);
        Check.throwsState("setKeep()", () -> Check.setKeep(x, 0, "not ".repeat(30) + "true"));
        Check.same("errorCode() of setKeep()", x.errorCode(), 4);
        Check.throwsState("setLess()", () -> Check.setLess(x, 0, "plus 5 a"));
        Check.same("errorCode() of setLess()", x.errorCode(), 2);
    }

    @Says("Returns the code of the error found by the latest call that parsed a text;")
    static void promise04_callsThatParseNoTextDoNotMatter() {
        BackwardProofs x = new BackwardProofs();
        Check.throwsState("setAfter()", () -> Check.setAfter(x, "eq a 4"));
        x.feed(0, 0, 0, 0, 0);
        Check.throwsArgument("load(21)", () -> x.load(21));
        Check.throwsArgument("setBefore(-1)", () -> x.setBefore(-1));
        Check.throwsMissing("setKeep(1, 1)", () -> x.setKeep(1, 1));
        Check.throwsMissing("setLess(1, 1)", () -> x.setLess(1, 1));
        x.setPrice(0, 1);
        x.undo();
        Check.same("errorCode()", x.errorCode(), 2);
    }

    @Says("0 if it found none or there was no such call.")
    static void promise04_itIs0WithoutSuchACall() {
        BackwardProofs x = new BackwardProofs();
        Check.same("errorCode()", x.errorCode(), 0);
        x.feed(0, 0, 0, 0, 0);
        x.fill(0, 1);
        Check.same("errorCode() behind other calls", x.errorCode(), 0);
    }

    @Says("0 if it found none or there was no such call.")
    static void promise04_itIs0BehindATextWithoutError() {
        BackwardProofs x = new BackwardProofs();
        for (int method = 0; method < 5; method++) {
            Check.throwsState("setAfter()", () -> Check.setAfter(x, "eq a 4"));
            Check.same("errorCode()", x.errorCode(), 2);
            parseWithoutError(x, method);
            Check.same("errorCode() behind the method " + method, x.errorCode(), 0);
        }
    }

    private static void parseWithoutError(BackwardProofs x, int method) {
        if (method == 0) {
            Check.setBefore(x, "true");
        } else if (method == 1) {
            Check.setAfter(x, "true");
        } else if (method == 2) {
            Check.setKeep(x, 0, "true");
        } else if (method == 3) {
            Check.setLess(x, 0, "a");
        } else {
            Check.load(x, "proof true true");
        }
    }

    @Says("Returns the position of that error;")
    static void promise05_theLeastPositionIs0() {
        BackwardProofs x = new BackwardProofs();
        Check.throwsState("load(0)", () -> x.load(0));
        Check.same("errorPosition()", x.errorPosition(), 0);
        Check.throwsState("setLess()", () -> Check.setLess(x, 0, "4"));
        Check.same("errorPosition()", x.errorPosition(), 0);
    }

    @Says("Returns the position of that error;")
    static void promise05_theGreatestPositionIs800() {
        BackwardProofs x = new BackwardProofs();
        Check.throwsState("load()", () -> Check.load(x, "proof" + "\n".repeat(795)));
        Check.same("errorPosition()", x.errorPosition(), 800);
    }

    @Says("-1 if there is none.")
    static void promise05_itIsMinus1WithoutAnError() {
        BackwardProofs x = new BackwardProofs();
        Check.same("errorPosition()", x.errorPosition(), -1);
        for (int method = 0; method < 5; method++) {
            Check.throwsState("setAfter()", () -> Check.setAfter(x, "eq a 4"));
            Check.same("errorPosition()", x.errorPosition(), 5);
            parseWithoutError(x, method);
            Check.same("errorPosition() behind the method " + method, x.errorPosition(), -1);
        }
    }
}
