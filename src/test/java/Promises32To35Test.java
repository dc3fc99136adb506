/** Promises 32 to 35, writing: a case for each boundary that their sentences name. */
public final class Promises32To35Test {
    private static final int[] FAR = {-1, 24, Integer.MIN_VALUE, Integer.MAX_VALUE};
    /** 17 nodes, eight of them a; with not ahead of it, one more. */
    private static final String EIGHT_A = "not not eq plus a plus a plus a a plus a plus a plus a a";
    /** 19 nodes, ten of them a. */
    private static final String TEN_A = "eq " + "plus a ".repeat(8) + "a a";
    /** 19 nodes. */
    private static final String SUM_19 = "plus 1 ".repeat(9) + "b";
    /** 11 nodes. */
    private static final String SUM_11 = "plus 1 ".repeat(5) + "b";

    private Promises32To35Test() {
    }

    public static void main(String[] args) {
        Cases.run(Promises32To35Test.class);
    }

    private static void written(BackwardProofs x, int statement, String due) {
        Check.same("writeNeed(" + statement + ")", x.writeNeed(statement), due.length());
        Check.sameText("the output of writeNeed(" + statement + ")", Check.output(x, due.length()), due);
        Check.throwsIndex("outputByte(" + due.length() + ")", () -> x.outputByte(due.length()));
    }

    /** AFTER has 20 nodes, the set makes 200 of them. */
    private static BackwardProofs of200Nodes() {
        return Check.loaded("proof true not " + TEN_A + " hole set a " + SUM_19);
    }

    private static String textOf200Nodes() {
        return "not " + TEN_A.replace("a", SUM_19);
    }

    /** AFTER has 21 nodes, the set makes 201 of them. */
    private static BackwardProofs of201Nodes() {
        return Check.loaded("proof true not not " + TEN_A + " hole set a " + SUM_19);
    }

    // ---- Promise 32: writeNeed

    @Says("Writes the NEED ahead of a statement to the output buffer as a condition, by section 3, replacing the content of "
            + "the buffer:")
    static void promise32_theConditionOfEachKindOfStatement() {
        BackwardProofs x = Check.loaded("proof true eq a 0 if lt b c set a 1 else hole end while true keep eq b 1 less 0 "
                + "set b c end set a b");
        written(x, 0, "or and lt b c eq b 1 and not lt b c eq b 1");
        written(x, 1, "eq b 1");
        written(x, 2, "eq b 1");
        written(x, 3, "eq b 1");
        written(x, 4, "eq c 1");
        written(x, 5, "eq b 0");
    }

    @Says("replacing the content of the buffer:")
    static void promise32_aShorterTextReplacesALongerOne() {
        BackwardProofs x = new BackwardProofs();
        written(x, 3, "and eq a 0 eq b 2");
        written(x, 1, "eq b 2");
        Check.throwsIndex("outputByte(16)", () -> x.outputByte(16));
        written(x, 3, "and eq a 0 eq b 2");
    }

    @Says("replacing the content of the buffer:")
    static void promise32_theShortestText() {
        written(Check.loaded("proof true true hole"), 0, "true");
    }

    @Says("words and numbers with one space between two.")
    static void promise32_oneSpaceBetweenTwoAndNoneAtTheEnds() {
        BackwardProofs x = Check.loaded("proof true \n\n and  eq \n a   0\n\n eq b  2 \n hole  \n");
        written(x, 0, "and eq a 0 eq b 2");
    }

    @Says("words and numbers with one space between two.")
    static void promise32_eachWordAndNumber() {
        BackwardProofs x = Check.loaded("proof true or not and false lt plus a 0 minus b 1 eq times c 2 3 hole");
        written(x, 0, "or not and false lt plus a 0 minus b 1 eq times c 2 3");
    }

    @Says("Nothing is made simpler;")
    static void promise32_nothingIsMadeSimpler() {
        BackwardProofs x = Check.loaded("proof true not not and true eq plus 0 minus a a 0 if true else end set a 3");
        written(x, 1, "not not and true eq plus 0 minus 3 3 0");
        written(x, 0, "or and true not not and true eq plus 0 minus 3 3 0 and not true not not and true eq plus 0 minus 3 3 0");
    }

    @Says("Nothing is made simpler;")
    static void promise32_theLongestConditionOfAText() {
        String thirty = "not ".repeat(29) + "false";
        written(Check.loaded("proof true " + thirty + " hole"), 0, thirty);
    }

    @Says("words and numbers with one space between two.")
    static void promise32_aTextOfNearlyThousandBytes() {
        String after = "and false ".repeat(14) + "false";
        String outer = "not and false and false false";
        String inner = "and false ".repeat(7) + "false";
        BackwardProofs x = Check.loaded("proof true " + after + " if " + outer + " if " + inner + " else end else if " + inner
                + " else end end");
        String first = "or and " + inner + " " + after + " and not " + inner + " " + after;
        String due = "or and " + outer + " " + first + " and not " + outer + " " + first;
        Check.same("nodes of what is due", due.split(" ").length, 200);
        Check.same("needNodes(0)", x.needNodes(0), 200);
        written(x, 0, due);
        Check.same("nearly thousand", due.length() > 960 ? 1 : 0, 1);
        Check.same("the last byte", x.outputByte(due.length() - 1), 'e');
    }

    @Says("of a while its KEEP is written.")
    static void promise32_ofAWhileItsKeep() {
        BackwardProofs x = Check.loaded("proof true false while true keep not not lt a 3 less 0 hole end");
        written(x, 0, "not not lt a 3");
        Check.setKeep(x, 0, "true");
        written(x, 0, "true");
        written(x, 1, "true");
        x.undo();
        written(x, 0, "not not lt a 3");
    }

    private static final String LIMIT = "If the condition would have more than 200 NODEs, nothing is written.";

    @Says(LIMIT)
    static void promise32_200NodesAreWritten() {
        BackwardProofs x = of200Nodes();
        Check.same("nodes of what is due", textOf200Nodes().split(" ").length, 200);
        written(x, 1, textOf200Nodes());
        written(x, 0, textOf200Nodes());
    }

    @Says(LIMIT)
    static void promise32_201NodesAreNot() {
        BackwardProofs x = of201Nodes();
        Check.same("writeNeed(1)", x.writeNeed(1), -1);
        Check.same("writeNeed(0)", x.writeNeed(0), -1);
        Check.throwsIndex("outputByte(0)", () -> x.outputByte(0));
    }

    @Says(LIMIT)
    static void promise32_anIfOf200NodesIsWrittenAndOneOf202IsNot() {
        BackwardProofs x = Check.loaded("proof true " + EIGHT_A + " if true else end set a " + SUM_11);
        String behind = EIGHT_A.replace("a", SUM_11);
        String due = "or and true " + behind + " and not true " + behind;
        Check.same("nodes of what is due", due.split(" ").length, 200);
        written(x, 0, due);
        Check.setAfter(x, "not " + EIGHT_A);
        Check.same("writeNeed(0)", x.writeNeed(0), -1);
        Check.sameText("the output", Check.output(x, due.length()), due);
    }

    @Says(LIMIT)
    static void promise32_whatIsAheadOfTooManyNodesIsNotWrittenEither() {
        BackwardProofs x = Check.loaded("proof true not not " + TEN_A + " if true hole else set b 1 end set c 1 set a "
                + SUM_19);
        for (int statement = 0; statement < 5; statement++) {
            Check.same("writeNeed(" + statement + ")", x.writeNeed(statement), -1);
        }
    }

    @Says(LIMIT)
    static void promise32_aLoopsKeepCutsOffWhatIsTooLarge() {
        BackwardProofs x = Check.loaded("proof true not not " + TEN_A + " hole while true keep eq b 3 less 0 hole end set a "
                + SUM_19);
        Check.same("writeNeed(3)", x.writeNeed(3), -1);
        written(x, 2, "eq b 3");
        written(x, 1, "eq b 3");
        written(x, 0, "eq b 3");
    }

    @Says("Returns the length of the output; NONE if nothing is written (the output stays).")
    static void promise32_theOutputStaysIfNothingIsWritten() {
        BackwardProofs x = of200Nodes();
        x.writeNeed(0);
        int length = textOf200Nodes().length();
        Check.setAfter(x, "not not " + TEN_A);
        Check.same("writeNeed(0)", x.writeNeed(0), -1);
        Check.sameText("the output", Check.output(x, length), textOf200Nodes());
        Check.throwsIndex("outputByte()", () -> x.outputByte(length));
    }

    @Says("Returns the length of the output;")
    static void promise32_theLengthFrom4On() {
        Check.same("true", Check.loaded("proof true true hole").writeNeed(0), 4);
        Check.same("false", Check.loaded("proof true false hole").writeNeed(0), 5);
        Check.same("eq a 003", Check.loaded("proof true eq a 003 hole").writeNeed(0), 6);
    }

    @Says("Throws `NoSuchElementException` if there is no such statement")
    static void promise32_noSuchStatement() {
        BackwardProofs x = new BackwardProofs();
        written(x, 1, "eq b 2");
        Check.throwsMissing("writeNeed(4)", () -> x.writeNeed(4));
        for (int statement : FAR) {
            Check.throwsMissing("writeNeed(" + statement + ")", () -> x.writeNeed(statement));
        }
        Check.sameText("the output", Check.output(x, 6), "eq b 2");
        BackwardProofs none = Check.loaded("proof true true");
        Check.throwsMissing("writeNeed(0) of no statements", () -> none.writeNeed(0));
    }

    // ---- Promise 33: outputByte

    @Says("index into the output buffer")
    static void promise33_theFirstAndTheLastByte() {
        BackwardProofs x = new BackwardProofs();
        x.writeNeed(3);
        Check.same("outputByte(0)", x.outputByte(0), 'a');
        Check.same("outputByte(16)", x.outputByte(16), '2');
    }

    @Says("Returns the byte at that index.")
    static void promise33_spacesLettersAndDigits() {
        BackwardProofs x = new BackwardProofs();
        x.writeNeed(1);
        int[] due = {101, 113, 32, 98, 32, 50};
        for (int index = 0; index < due.length; index++) {
            Check.same("outputByte(" + index + ")", x.outputByte(index), due[index]);
        }
    }

    @Says("Throws `IndexOutOfBoundsException` if index is negative or not less than the length of the output")
    static void promise33_negativeIndexes() {
        BackwardProofs x = new BackwardProofs();
        x.writeNeed(1);
        Check.throwsIndex("outputByte(-1)", () -> x.outputByte(-1));
        Check.throwsIndex("outputByte(MIN)", () -> x.outputByte(Integer.MIN_VALUE));
    }

    @Says("Throws `IndexOutOfBoundsException` if index is negative or not less than the length of the output")
    static void promise33_indexesFromTheLengthOn() {
        BackwardProofs x = new BackwardProofs();
        x.writeNeed(1);
        Check.throwsIndex("outputByte(6)", () -> x.outputByte(6));
        Check.throwsIndex("outputByte(7)", () -> x.outputByte(7));
        Check.throwsIndex("outputByte(1200)", () -> x.outputByte(1200));
        Check.throwsIndex("outputByte(MAX)", () -> x.outputByte(Integer.MAX_VALUE));
    }

    @Says("not less than the length of the output")
    static void promise33_theEmptyOutput() {
        BackwardProofs x = new BackwardProofs();
        Check.throwsIndex("outputByte(0)", () -> x.outputByte(0));
        x.needNodes(0);
        x.gap(0);
        Check.throwsIndex("outputByte(0): nothing was written yet", () -> x.outputByte(0));
    }

    // ---- Promise 34: needNodes

    @Says("Returns NODEs of the NEED ahead of it as a condition of section 3 (as writeNeed() would write it);")
    static void promise34_nodesFrom1To200() {
        Check.same("one", Check.loaded("proof true true hole").needNodes(0), 1);
        Check.same("seven", new BackwardProofs().needNodes(3), 7);
        BackwardProofs x = of200Nodes();
        Check.same("200", x.needNodes(1), 200);
        Check.same("200, ahead of the hole", x.needNodes(0), 200);
    }

    @Says("(as writeNeed() would write it)")
    static void promise34_nothingIsWritten() {
        BackwardProofs x = new BackwardProofs();
        x.writeNeed(1);
        x.needNodes(3);
        Check.sameText("the output", Check.output(x, 6), "eq b 2");
        Check.throwsIndex("outputByte(6)", () -> x.outputByte(6));
    }

    @Says("NONE if these are more than 200.")
    static void promise34_moreThan200Nodes() {
        BackwardProofs x = of201Nodes();
        Check.same("needNodes(1)", x.needNodes(1), -1);
        Check.same("needNodes(0)", x.needNodes(0), -1);
        BackwardProofs y = Check.loaded("proof true " + TEN_A + " set b 1 " + "set a plus a a ".repeat(22));
        Check.same("needNodes(0) of millions", y.needNodes(0), -1);
        Check.same("needNodes(22)", y.needNodes(22), 19 + 10 * 2);
        Check.same("needNodes(20)", y.needNodes(20), 19 + 10 * 14);
        Check.same("needNodes(19)", y.needNodes(19), -1);
    }

    @Says("Throws `NoSuchElementException` if there is no such statement")
    static void promise34_noSuchStatement() {
        BackwardProofs x = new BackwardProofs();
        Check.throwsMissing("needNodes(4)", () -> x.needNodes(4));
        for (int statement : FAR) {
            Check.throwsMissing("needNodes(" + statement + ")", () -> x.needNodes(statement));
        }
        BackwardProofs none = Check.loaded("proof true true");
        Check.throwsMissing("needNodes(0) of no statements", () -> none.needNodes(0));
    }

    // ---- Promise 35: gap

    @Says("(always 0);")
    static void promise35_itIsAlways0() {
        BackwardProofs x = of200Nodes();
        Check.same("gap(1) of 200 nodes", x.gap(1), 0);
        BackwardProofs y = Check.loaded("proof true eq a b if lt a c set a times a b else hole end while eq a 1 keep lt b c "
                + "less 0 set b minus b a end set b plus b c");
        for (int filling = -1; filling < 39; filling++) {
            y.fill(0, filling);
            for (int statement = 0; statement < 6; statement++) {
                Check.same("gap(" + statement + ") with the filling " + filling, y.gap(statement), 0);
            }
        }
    }

    @Says("0, too, if needNodes() is NONE.")
    static void promise35_moreThan200Nodes() {
        BackwardProofs x = of201Nodes();
        Check.same("needNodes(1)", x.needNodes(1), -1);
        Check.same("gap(1)", x.gap(1), 0);
        Check.same("gap(0)", x.gap(0), 0);
    }

    @Says("Returns how many states there are in which the NEED ahead of it, as a condition, and need() do not agree")
    static void promise35_nothingChanges() {
        BackwardProofs x = new BackwardProofs();
        x.writeNeed(1);
        String picture = Check.picture(x);
        x.gap(3);
        Check.sameText("the picture", Check.picture(x), picture);
        Check.sameText("the output", Check.output(x, 6), "eq b 2");
    }

    @Says("Throws `NoSuchElementException` if there is no such statement")
    static void promise35_noSuchStatement() {
        BackwardProofs x = new BackwardProofs();
        Check.throwsMissing("gap(4)", () -> x.gap(4));
        for (int statement : FAR) {
            Check.throwsMissing("gap(" + statement + ")", () -> x.gap(statement));
        }
        BackwardProofs none = Check.loaded("proof true true");
        Check.throwsMissing("gap(0) of no statements", () -> none.gap(0));
    }
}
