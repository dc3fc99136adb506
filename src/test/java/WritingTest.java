/** Promises 32 to 35: writeNeed, outputByte, needNodes, gap. */
public final class WritingTest {
    private WritingTest() {
    }

    public static void main(String[] args) {
        writtenAsTheyStand();
        swapped();
        filledHoles();
        branches();
        loops();
        exactLimit();
        tooLarge();
        output();
        wrongQuestions();
        Check.finish("WritingTest");
    }

    private static void written(BackwardProofs x, int statement, String due) {
        String call = "writeNeed(" + statement + ")";
        int nodes = due.split(" ").length;
        Check.same("needNodes(" + statement + ")", x.needNodes(statement), nodes);
        Check.same(call, x.writeNeed(statement), due.length());
        Check.sameText(call, Check.output(x, due.length()), due);
        Check.throwsIndex("outputByte behind " + call, () -> x.outputByte(due.length()));
        Check.same("gap(" + statement + ")", x.gap(statement), 0);
        // what was written, read as BEFORE, holds where need() is
        if (nodes <= 30) {
            BackwardProofs y = new BackwardProofs();
            Check.setBefore(y, due);
            Check.same("the states of " + due, y.before(), x.need(statement));
        }
    }

    private static void writtenAsTheyStand() {
        String all = "or not and false lt plus a 0 minus b 1 eq times c 2 3";
        BackwardProofs x = Check.loaded("proof true " + all.replace(" ", " \n ") + " hole");
        written(x, 0, all);
        Check.setAfter(x, "eq a 003");
        written(x, 0, "eq a 3");
        Check.setAfter(x, "not not true");
        written(x, 0, "not not true");
    }

    private static void swapped() {
        BackwardProofs x = Check.loaded("proof true and eq a b lt a 2 set b a set a plus a times b 3 set c 1");
        written(x, 2, "and eq a b lt a 2");
        written(x, 1, "and eq plus a times b 3 b lt plus a times b 3 2");
        // what was put in is swapped too, but not what is just being put in
        written(x, 0, "and eq plus a times a 3 a lt plus a times a 3 2");
        BackwardProofs y = Check.loaded("proof true eq a 1 set a minus a b");
        written(y, 0, "eq minus a b 1");
    }

    private static void filledHoles() {
        String[] forms = {"0", "1", "2", "3", "a", "b", "c", "plus a 1", "plus b 1", "plus c 1", "minus a 1", "minus b 1",
            "minus c 1"};
        BackwardProofs x = Check.loaded("proof true eq plus a b c hole");
        written(x, 0, "eq plus a b c");
        for (int form = 0; form < forms.length; form++) {
            x.fill(0, form);
            written(x, 0, "eq plus " + forms[form] + " b c");
            x.fill(0, 13 + form);
            written(x, 0, "eq plus a " + forms[form] + " c");
            x.fill(0, 26 + form);
            written(x, 0, "eq plus a b " + forms[form]);
        }
        x.fill(0, -1);
        written(x, 0, "eq plus a b c");
    }

    private static void branches() {
        BackwardProofs x = Check.loaded("proof true eq a 0 if lt b c set a 1 set a c else set b a end");
        written(x, 0, "or and lt b c eq c 0 and not lt b c eq a 0");
        written(x, 1, "eq c 0");
        written(x, 2, "eq c 0");
        written(x, 3, "eq a 0");
        BackwardProofs y = Check.loaded("proof true eq a 0 if lt b c else hole end set a b");
        written(y, 0, "or and lt b c eq b 0 and not lt b c eq b 0");
        written(y, 1, "eq b 0");
        BackwardProofs z = Check.loaded("proof true eq a 0 if true if false set a b else end else end set a c");
        written(z, 0, "or and true or and false eq c 0 and not false eq c 0 and not true eq c 0");
        written(z, 1, "or and false eq c 0 and not false eq c 0");
    }

    private static void loops() {
        BackwardProofs x = Check.loaded("proof true eq a 0 set c b while lt a 3 keep eq c 2 less a "
                + "if true set c 1 else end set c b end");
        written(x, 0, "eq b 2");
        written(x, 1, "eq c 2");
        written(x, 2, "or and true eq b 2 and not true eq b 2");
        written(x, 3, "eq b 2");
        written(x, 4, "eq b 2");
        Check.setKeep(x, 0, "lt c a");
        written(x, 1, "lt c a");
        written(x, 0, "lt b a");
        written(x, 4, "lt b a");
        BackwardProofs y = Check.loaded("proof true eq a 0 while true keep lt a 1 less 0 while true keep lt a 2 less 0 "
                + "hole end end");
        written(y, 0, "lt a 1");
        written(y, 1, "lt a 2");
        written(y, 2, "lt a 2");
    }

    /** AFTER has 20 nodes, ten of them a; the set has an expression of 19 nodes: 200. With one not more: 201. */
    private static void exactLimit() {
        String ten = "eq " + "plus a ".repeat(8) + "a a";
        String sum = "plus 1 ".repeat(9) + "b";
        BackwardProofs x = Check.loaded("proof true not " + ten + " hole set a " + sum);
        StringBuilder due = new StringBuilder("not eq ");
        due.append(("plus " + sum + " ").repeat(8)).append(sum).append(' ').append(sum);
        Check.same("needNodes(0)", x.needNodes(0), 200);
        written(x, 0, due.toString());
        written(x, 1, due.toString());
        Check.setAfter(x, "not not " + ten);
        Check.same("needNodes(0)", x.needNodes(0), -1);
        Check.same("needNodes(1)", x.needNodes(1), -1);
        Check.same("writeNeed(1)", x.writeNeed(1), -1);
        Check.same("gap(1)", x.gap(1), 0);
        Check.sameText("the output stays", Check.output(x, due.length()), due.toString());
        // longer words: 200 nodes of up to five letters
        String thirty = "not ".repeat(9) + "eq " + "minus a ".repeat(9) + "a 1";
        BackwardProofs y = Check.loaded("proof true " + thirty + " set a " + "times 1 ".repeat(8) + "times b c");
        int nodes = 30 + 10 * 18;
        Check.same("nodes are too many", y.needNodes(0), nodes > 200 ? -1 : nodes);
        Check.setAfter(y, thirty.substring(4 * 9).replaceFirst("a 1", "0 1"));
        Check.same("needNodes(0)", y.needNodes(0), 21 + 9 * 18);
        Check.same("gap(0)", y.gap(0), 0);
    }

    private static void tooLarge() {
        String ten = "eq " + "plus a ".repeat(8) + "a a";
        String sum = "plus a ".repeat(9) + "b";
        BackwardProofs x = Check.loaded("proof true " + ten + " hole if true while lt b 2 keep eq a 0 less b hole end else "
                + "set b 1 end set a " + sum + " set a " + sum + " hole");
        int[] due = {-1, -1, 3, 3, -1, -1, 199, 19, 0};
        for (int statement = 0; statement < 8; statement++) {
            Check.same("needNodes(" + statement + ")", x.needNodes(statement), due[statement]);
            Check.same("gap(" + statement + ")", x.gap(statement), 0);
        }
        Check.same("writeNeed(3)", x.writeNeed(3), 6);
        Check.same("writeNeed(0)", x.writeNeed(0), -1);
        Check.same("writeNeed(1)", x.writeNeed(1), -1);
        Check.sameText("the output stays", Check.output(x, 6), "eq a 0");
        Check.throwsIndex("outputByte(6)", () -> x.outputByte(6));
        // an if doubles what is behind it: 4 + 2 + 2 * 97 are 200 nodes
        BackwardProofs y = Check.loaded("proof true lt a b if true else end if true else end if true else end "
                + "if true else end set b plus b a");
        Check.same("needNodes(3)", y.needNodes(3), 6 + 2 * 5);
        Check.same("needNodes(2)", y.needNodes(2), 6 + 2 * 16);
        Check.same("needNodes(1)", y.needNodes(1), 6 + 2 * 38);
        Check.same("needNodes(0)", y.needNodes(0), 6 + 2 * 82);
        Check.setAfter(y, "eq plus a b a");
        Check.same("needNodes(0)", y.needNodes(0), 6 + 2 * (6 + 2 * (6 + 2 * (6 + 2 * 7))) > 200 ? -1 : 202);
        Check.same("needNodes(1)", y.needNodes(1), 6 + 2 * (6 + 2 * (6 + 2 * 7)));
    }

    private static void output() {
        BackwardProofs x = new BackwardProofs();
        Check.same("gap(3) at first", x.gap(3), 0);
        x.fill(0, 14);
        Check.same("needNodes(3) ahead of all writing", x.needNodes(3), 7);
        x.fill(0, 7);
        Check.same("gap(3) behind a change", x.gap(3), 0);
        x.fill(0, -1);
        Check.throwsIndex("outputByte(0) at first", () -> x.outputByte(0));
        Check.same("writeNeed(3)", x.writeNeed(3), 17);
        Check.same("outputByte(0)", x.outputByte(0), 'a');
        Check.same("outputByte(3)", x.outputByte(3), ' ');
        Check.same("outputByte(16)", x.outputByte(16), '2');
        Check.same("a shorter one takes its place", x.writeNeed(0), 6);
        Check.same("outputByte(5)", x.outputByte(5), '2');
        Check.throwsIndex("outputByte(6)", () -> x.outputByte(6));
        Check.throwsIndex("outputByte(16)", () -> x.outputByte(16));
        Check.throwsIndex("outputByte(-1)", () -> x.outputByte(-1));
        Check.throwsIndex("outputByte(MIN)", () -> x.outputByte(Integer.MIN_VALUE));
        Check.throwsIndex("outputByte(MAX)", () -> x.outputByte(Integer.MAX_VALUE));
        Check.same("needNodes(3)", x.needNodes(3), 7);
        Check.same("gap(3)", x.gap(3), 0);
        Check.throwsMissing("writeNeed(4)", () -> x.writeNeed(4));
        Check.sameText("none of these writes", Check.output(x, 6), "eq 2 2");
    }

    private static void wrongQuestions() {
        BackwardProofs x = new BackwardProofs();
        int[] numbers = {4, 24, -1, Integer.MIN_VALUE, Integer.MAX_VALUE};
        for (int number : numbers) {
            Check.throwsMissing("writeNeed(" + number + ")", () -> x.writeNeed(number));
            Check.throwsMissing("needNodes(" + number + ")", () -> x.needNodes(number));
            Check.throwsMissing("gap(" + number + ")", () -> x.gap(number));
        }
        Check.throwsIndex("outputByte(0): nothing was written", () -> x.outputByte(0));
    }
}
