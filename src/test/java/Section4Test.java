/** Section 4 of the Terms, CHANGES: a case for each boundary that its sentences name. */
public final class Section4Test {
    private Section4Test() {
    }

    public static void main(String[] args) {
        Cases.run(Section4Test.class);
    }

    private static final String SAME = "even if everything stays as it was.";
    private static final String THROW = "are changes if they do not throw";

    /** A change was counted: there is one more that can be undone. */
    private static void counts(BackwardProofs x, int before) {
        Check.same("value(7)", x.value(7), before + 1);
    }

    @Says(SAME)
    static void section4_setBeforeToWhatItIsIsAChange() {
        BackwardProofs x = new BackwardProofs();
        Check.setBefore(x, "lt a 3");
        counts(x, 0);
    }

    @Says(SAME)
    static void section4_setAfterToWhatItIsIsAChange() {
        BackwardProofs x = new BackwardProofs();
        Check.setAfter(x, "and eq a 0 eq b 2");
        counts(x, 0);
    }

    @Says(SAME)
    static void section4_setKeepToWhatItIsIsAChange() {
        BackwardProofs x = new BackwardProofs();
        Check.setKeep(x, 0, "eq b 2");
        counts(x, 0);
    }

    @Says(SAME)
    static void section4_setLessToWhatItIsIsAChange() {
        BackwardProofs x = new BackwardProofs();
        Check.setLess(x, 0, "a");
        counts(x, 0);
    }

    @Says(SAME)
    static void section4_fillWithWhatItHasIsAChange() {
        BackwardProofs x = new BackwardProofs();
        x.fill(0, -1);
        counts(x, 0);
        x.fill(0, 5);
        x.fill(0, 5);
        counts(x, 2);
    }

    @Says(SAME)
    static void section4_setPriceToWhatItIsIsAChange() {
        BackwardProofs x = new BackwardProofs();
        x.setPrice(0, 10);
        counts(x, 0);
    }

    @Says(SAME)
    static void section4_restoreOfWhatThereIsIsAChange() {
        BackwardProofs x = new BackwardProofs();
        x.save(0);
        x.restore(0);
        counts(x, 0);
    }

    @Says("The methods of the section \"changes\" are changes")
    static void section4_saveUndoAndLoadAreNoChanges() {
        BackwardProofs x = new BackwardProofs();
        x.setPrice(0, 1);
        x.setPrice(0, 2);
        x.save(0);
        Check.same("value(7) behind save()", x.value(7), 2);
        x.undo();
        Check.same("value(7) behind undo()", x.value(7), 1);
        Check.load(x, "proof true true");
        Check.same("value(7) behind load()", x.value(7), 0);
    }

    @Says("The methods of the section \"changes\" are changes")
    static void section4_whatOnlyAsksIsNoChange() {
        BackwardProofs x = new BackwardProofs();
        x.proves(0);
        x.rights(0);
        x.writeNeed(0);
        x.feed(0, 0, 0, 0, 0);
        x.run(0);
        x.gap(1);
        Check.same("value(7)", x.value(7), 0);
    }

    @Says(THROW)
    static void section4_aChangeThatThrowsIsNone() {
        BackwardProofs x = new BackwardProofs();
        x.setPrice(0, 1);
        Check.throwsArgument("setBefore(1)", () -> x.setBefore(1));
        Check.throwsArgument("setAfter(-1)", () -> x.setAfter(-1));
        Check.throwsMissing("setKeep(1, 0)", () -> x.setKeep(1, 0));
        Check.throwsMissing("setLess(1, 0)", () -> x.setLess(1, 0));
        Check.throwsState("setBefore(0)", () -> x.setBefore(0));
        Check.throwsState("setAfter(0)", () -> x.setAfter(0));
        Check.throwsState("setKeep(0, 0)", () -> x.setKeep(0, 0));
        Check.throwsState("setLess(0, 0)", () -> x.setLess(0, 0));
        Check.throwsArgument("fill(0, 39)", () -> x.fill(0, 39));
        Check.throwsArgument("setPrice(0, 100)", () -> x.setPrice(0, 100));
        Check.throwsState("restore(0)", () -> x.restore(0));
        Check.same("value(7)", x.value(7), 1);
        Check.same("undo()", x.undo(), 0);
        Check.same("the price at first", x.statement(0, 5), 10);
    }

    private static final String TEN = "The latest 10 changes can be undone, one after the other:";

    @Says(TEN)
    static void section4_nineChangesCanAllBeUndone() {
        undoneOf(9, 9);
    }

    @Says(TEN)
    static void section4_tenChangesCanAllBeUndone() {
        undoneOf(10, 10);
    }

    @Says(TEN)
    static void section4_ofElevenChangesTheFirstStays() {
        undoneOf(11, 10);
    }

    @Says(TEN)
    static void section4_of25ChangesTheLatestTenCanBeUndone() {
        undoneOf(25, 10);
    }

    /** Prices rise from 11 on; each undo brings back the one before. */
    private static void undoneOf(int changes, int due) {
        BackwardProofs x = new BackwardProofs();
        for (int i = 1; i <= changes; i++) {
            x.setPrice(0, 10 + i);
        }
        Check.same("value(7)", x.value(7), due);
        for (int i = 1; i <= due; i++) {
            Check.same("undo()", x.undo(), due - i);
            Check.same("the price", x.statement(0, 5), 10 + changes - i);
        }
        Check.throwsState("undo() of nothing", x::undo);
        Check.same("the price", x.statement(0, 5), 10 + changes - due);
    }

    @Says(TEN)
    static void section4_whatWasUndoneMakesRoomForNewChanges() {
        BackwardProofs x = new BackwardProofs();
        for (int price = 11; price <= 20; price++) {
            x.setPrice(0, price);
        }
        x.undo();
        x.undo();
        Check.same("the price", x.statement(0, 5), 18);
        x.setPrice(0, 70);
        x.setPrice(0, 71);
        Check.same("value(7): still ten", x.value(7), 10);
        x.setPrice(0, 72);
        Check.same("value(7): still ten, the first is gone", x.value(7), 10);
        int[] prices = {71, 70, 18, 17, 16, 15, 14, 13, 12, 11};
        for (int price : prices) {
            x.undo();
            Check.same("the price", x.statement(0, 5), price);
        }
        Check.throwsState("undo() of nothing", x::undo);
    }

    private static final String BACK = "each undo brings everything back to what it was before the change";

    @Says(BACK)
    static void section4_undoOfSetBefore() {
        BackwardProofs x = new BackwardProofs();
        Check.setBefore(x, "eq c 1");
        undone(x);
    }

    @Says(BACK)
    static void section4_undoOfSetAfter() {
        BackwardProofs x = new BackwardProofs();
        Check.setAfter(x, "eq c 1");
        undone(x);
    }

    @Says(BACK)
    static void section4_undoOfSetKeep() {
        BackwardProofs x = new BackwardProofs();
        Check.setKeep(x, 0, "eq c 1");
        undone(x);
    }

    @Says(BACK)
    static void section4_undoOfSetLess() {
        BackwardProofs x = new BackwardProofs();
        Check.setLess(x, 0, "times c 3");
        undone(x);
    }

    @Says(BACK)
    static void section4_undoOfFill() {
        BackwardProofs x = new BackwardProofs();
        x.fill(0, 38);
        undone(x);
    }

    @Says(BACK)
    static void section4_undoOfSetPrice() {
        BackwardProofs x = new BackwardProofs();
        x.setPrice(3, 99);
        undone(x);
    }

    @Says(BACK)
    static void section4_undoOfRestore() {
        BackwardProofs x = new BackwardProofs();
        x.fill(0, 3);
        x.save(0);
        x.undo();
        x.restore(0);
        Check.same("restore() filled the hole", x.value(3), 1);
        undone(x);
    }

    private static void undone(BackwardProofs x) {
        String first = Check.picture(new BackwardProofs());
        Check.same("the change is there", Check.picture(x).equals(first) ? 1 : 0, 0);
        Check.same("undo()", x.undo(), 0);
        Check.sameText("behind undo()", Check.picture(x), first);
    }

    @Says("except for the buffers")
    static void section4_undoLeavesTheInputBuffer() {
        BackwardProofs x = new BackwardProofs();
        x.setPrice(0, 1);
        Check.feed(x, "eq c 1");
        x.undo();
        Check.same("feed()", x.feed(0, 0, 0, 0, 0), 40);
        Check.same("setBefore() of what was fed", x.setBefore(6), 16);
    }

    @Says("except for the buffers")
    static void section4_undoBringsNoInputBack() {
        BackwardProofs x = new BackwardProofs();
        Check.setBefore(x, "eq c 1");
        x.undo();
        Check.throwsArgument("setBefore(6): the input was used up", () -> x.setBefore(6));
    }

    @Says("except for the buffers")
    static void section4_undoLeavesTheOutputBuffer() {
        BackwardProofs x = new BackwardProofs();
        x.fill(0, 3);
        Check.same("writeNeed(3)", x.writeNeed(3), 17);
        x.undo();
        Check.sameText("the output", Check.output(x, 17), "and eq 3 0 eq b 2");
        Check.throwsIndex("outputByte(17)", () -> x.outputByte(17));
    }

    @Says("errorCode() and errorPosition()")
    static void section4_undoLeavesTheError() {
        BackwardProofs x = new BackwardProofs();
        x.setPrice(0, 1);
        Check.throwsState("setAfter()", () -> Check.setAfter(x, "eq a 7"));
        x.undo();
        Check.same("errorCode()", x.errorCode(), 2);
        Check.same("errorPosition()", x.errorPosition(), 5);
    }

    @Says("errorCode() and errorPosition()")
    static void section4_undoBringsNoErrorBack() {
        BackwardProofs x = new BackwardProofs();
        Check.throwsState("setAfter()", () -> Check.setAfter(x, "eq a 7"));
        Check.setAfter(x, "true");
        x.undo();
        Check.same("errorCode()", x.errorCode(), 0);
        Check.same("errorPosition()", x.errorPosition(), -1);
    }

    @Says("and what is saved.")
    static void section4_undoLeavesWhatIsSaved() {
        BackwardProofs x = new BackwardProofs();
        x.setPrice(0, 1);
        x.save(1);
        x.undo();
        Check.same("the price", x.statement(0, 5), 10);
        Check.same("save(0): both are saved", x.save(0), 2);
        x.restore(1);
        Check.same("the price that was saved", x.statement(0, 5), 1);
    }
}
