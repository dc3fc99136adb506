/** Section 2 of the Terms, PROGRAMS: a case for each boundary that its sentences name. */
public final class Section2Test {
    private static final String AHEAD = "proof true true ";
    /** Counts a, b and c up, through all states, until all are 3. */
    private static final String COUNT_UP = "if eq a 3 if eq b 3 set c plus c 1 else end set b plus b 1 else end "
            + "set a plus a 1 ";

    private Section2Test() {
    }

    public static void main(String[] args) {
        Cases.run(Section2Test.class);
    }

    // ---- statements

    @Says("A program is a row of statements; it has at most 24, those in others counted")
    static void section2_aProgramMayHaveNoStatement() {
        BackwardProofs x = Check.loaded(AHEAD);
        Check.same("value(0)", x.value(0), 0);
        Check.same("run(63)", x.run(63), 63);
    }

    @Says("it has at most 24, those in others counted")
    static void section2_aProgramMayHave24Statements() {
        Check.same("load", Check.load(new BackwardProofs(), AHEAD + "hole ".repeat(24)), 24);
    }

    @Says("it has at most 24, those in others counted")
    static void section2_a25thStatementIsRefused() {
        Check.refused(AHEAD + "hole ".repeat(25), 3, 16 + 24 * 5);
    }

    @Says("it has at most 24, those in others counted")
    static void section2_thoseInOthersCount() {
        String inOthers = "if true hole hole else hole end while true keep true less 0 hole hole end ";
        BackwardProofs x = Check.loaded(AHEAD + inOthers.repeat(3) + "hole hole hole");
        Check.same("value(0)", x.value(0), 24);
        String text = AHEAD + inOthers.repeat(3) + "hole hole hole set a 1";
        Check.refused(text, 3, text.length() - 7);
        Check.refused(AHEAD + "if true ".repeat(25), 3, 16 + 24 * 8);
    }

    @Says("numbered from 0 in the order of their first words.")
    static void section2_statementsAreNumberedInTheOrderOfTheirFirstWords() {
        BackwardProofs x = Check.loaded(AHEAD + "set a 1 if true set b 1 else while true keep true less 0 hole end "
                + "set c 1 end hole");
        int[] kinds = {0, 1, 0, 2, 3, 0, 3};
        for (int statement = 0; statement < kinds.length; statement++) {
            Check.same("kind of " + statement, x.statement(statement, 0), kinds[statement]);
        }
        Check.same("the variable of the last set", x.statement(5, 1), 2);
        Check.same("depth of the last hole", x.statement(6, 2), 0);
    }

    @Says("A statement is:")
    static void section2_thereAreFourKindsOfStatements() {
        BackwardProofs x = Check.loaded(AHEAD + "set a 1 if true else end while true keep true less 0 end hole");
        for (int kind = 0; kind < 4; kind++) {
            Check.same("statement(" + kind + ", 0)", x.statement(kind, 0), kind);
        }
        Check.refused(AHEAD + "for", 1, 16);
    }

    @Says("There is a condition BEFORE, and a condition AFTER.")
    static void section2_beforeAndAfterMayBeEmptyOrFull() {
        BackwardProofs x = Check.loaded("proof false true");
        Check.same("before()", x.before(), 0L);
        Check.same("after()", x.after(), -1L);
        BackwardProofs y = Check.loaded("proof true false");
        Check.same("before()", y.before(), -1L);
        Check.same("after()", y.after(), 0L);
    }

    @Says("set (0): a variable becomes the value of an expression;")
    static void section2_aSetChangesItsVariableAlone() {
        BackwardProofs x = Check.loaded(AHEAD + "set b plus a c");
        for (int state = 0; state < 64; state++) {
            int b = (state % 4 + state / 16) % 4;
            Check.same("run(" + state + ")", x.run(state), state % 4 + 4 * b + 16 * (state / 16));
        }
    }

    @Says("set (0): a variable becomes the value of an expression;")
    static void section2_aSetReadsItsVariableAsItWas() {
        BackwardProofs x = Check.loaded(AHEAD + "set c minus 0 plus c c");
        Check.same("c 0", x.run(0), 0);
        Check.same("c 1", x.run(16), 2 * 16);
        Check.same("c 2", x.run(32), 0);
        Check.same("c 3", x.run(48 + 15), 2 * 16 + 15);
    }

    @Says("if (1): if a condition holds, its first row of statements is done, otherwise its second one;")
    static void section2_anIfDoesOneOfItsRows() {
        BackwardProofs x = Check.loaded(AHEAD + "if lt a 2 set b 1 set c 1 else set b 2 set c 2 end");
        Check.same("run(0)", x.run(0), 4 + 16);
        Check.same("run(1): the last state that holds", x.run(1), 1 + 4 + 16);
        Check.same("run(2): the first that does not", x.run(2), 2 + 8 + 32);
        Check.same("run(63)", x.run(63), 3 + 8 + 32);
    }

    @Says("if (1): if a condition holds, its first row of statements is done, otherwise its second one;")
    static void section2_theRowsOfAnIfMayBeEmpty() {
        BackwardProofs x = Check.loaded(AHEAD + "if eq a 0 else set a 0 end if eq b 0 set b 1 else end if true else end");
        Check.same("run(0)", x.run(0), 4);
        Check.same("run(7)", x.run(7), 4);
        Check.same("run(15)", x.run(15), 12);
    }

    @Says("while (2), a loop: as long as a condition holds, its row of statements is done, and the condition is looked at "
            + "again.")
    static void section2_aLoopMayHaveNoRound() {
        BackwardProofs x = Check.loaded(AHEAD + "while false keep true less 0 set a 0 end");
        Check.same("run(63)", x.run(63), 63);
        Check.same("rounds(0)", x.rounds(0), 0);
    }

    @Says("while (2), a loop: as long as a condition holds, its row of statements is done, and the condition is looked at "
            + "again.")
    static void section2_aLoopIsLeftAsSoonAsItsConditionDoesNotHold() {
        BackwardProofs x = Check.loaded(AHEAD + "while lt a 2 keep true less 0 set a plus a 1 set b 1 end");
        Check.same("run(0)", x.run(0), 2 + 4);
        Check.same("run(1)", x.run(1), 2 + 4);
        Check.same("run(2)", x.run(2), 2);
        Check.same("run(3)", x.run(3), 3);
    }

    @Says("It has a condition KEEP and an expression LESS, which do not matter for runs.")
    static void section2_keepAndLessDoNotMatterForRuns() {
        String loop = "while lt 0 a keep %s less %s set a minus a 1 end";
        BackwardProofs x = Check.loaded(AHEAD + String.format(loop, "true", "a"));
        BackwardProofs y = Check.loaded(AHEAD + String.format(loop, "false", "0"));
        for (int state = 0; state < 64; state++) {
            Check.same("run(" + state + ")", y.run(state), x.run(state));
            Check.same("steps(" + state + ")", y.steps(state), 1 + 2 * (state % 4));
        }
        Check.same("run(63)", y.run(63), 60);
    }

    @Says("Loops are numbered from 0, by their statements;")
    static void section2_loopsAreNumberedByTheirStatements() {
        String loop = "while true keep true less 0 ";
        BackwardProofs x = Check.loaded(AHEAD + "hole " + loop + "hole " + loop + "end end set a 1 " + loop + "end");
        Check.same("the outer one", x.statement(1, 7), 0);
        Check.same("the inner one", x.statement(3, 7), 1);
        Check.same("the last one", x.statement(5, 7), 2);
        Check.same("duty(9, 1)", x.duty(9, 1), 5);
    }

    @Says("Loops are numbered from 0, by their statements;")
    static void section2_thereMayBe24Loops() {
        BackwardProofs x = Check.loaded(AHEAD + "while true keep true less a ".repeat(24) + "end ".repeat(24));
        Check.same("value(1)", x.value(1), 24);
        Check.same("the last one's number", x.statement(23, 7), 23);
        Check.same("loopSet(23, 1)", x.loopSet(23, 1), -1L);
    }

    @Says("hole (3): nothing is done, or, if it is filled, what a set does.")
    static void section2_aHoleThatIsNotFilledDoesNothing() {
        BackwardProofs x = Check.loaded(AHEAD + "hole hole");
        for (int state = 0; state < 64; state++) {
            Check.same("run(" + state + ")", x.run(state), state);
        }
    }

    @Says("hole (3): nothing is done, or, if it is filled, what a set does.")
    static void section2_aFilledHoleDoesWhatASetDoes() {
        BackwardProofs x = Check.loaded(AHEAD + "hole");
        BackwardProofs y = Check.loaded(AHEAD + "set b minus c 1");
        x.fill(0, 13 + 12);
        for (int state = 0; state < 64; state++) {
            Check.same("run(" + state + ")", x.run(state), y.run(state));
        }
        Check.same("run(0)", x.run(0), 12);
    }

    @Says("Holes are numbered from 0 likewise.")
    static void section2_holesAreNumberedByTheirStatements() {
        BackwardProofs x = Check.loaded(AHEAD + "set a 1 if true hole else hole end hole");
        Check.same("the first one", x.statement(2, 7), 0);
        Check.same("the second one", x.statement(3, 7), 1);
        Check.same("the last one", x.statement(4, 7), 2);
    }

    @Says("Holes are numbered from 0 likewise.")
    static void section2_thereMayBe24Holes() {
        BackwardProofs x = Check.loaded(AHEAD + "hole ".repeat(24));
        Check.same("value(2)", x.value(2), 24);
        x.fill(23, 3);
        Check.same("run(0)", x.run(0), 3);
        Check.same("the variable of the last one", x.statement(23, 1), 0);
        Check.same("the variable of the one ahead of it", x.statement(22, 1), -1);
    }

    // ---- fillings

    @Says("A FILLING is a number, 13 * V + F: the variable V (0 to 2) becomes, with F 0 to 3, the value F;")
    static void section2_fillings0To3AreValues() {
        for (int f = 0; f < 4; f++) {
            int value = f;
            filled(f, s -> value);
        }
    }

    @Says("4 to 6, that of the variable F - 4;")
    static void section2_fillings4To6AreVariables() {
        filled(4, Check::a);
        filled(5, Check::b);
        filled(6, Check::c);
    }

    @Says("7 to 9, that of the variable F - 7 plus 1;")
    static void section2_fillings7To9AreVariablesPlus1() {
        filled(7, s -> (Check.a(s) + 1) % 4);
        filled(8, s -> (Check.b(s) + 1) % 4);
        filled(9, s -> (Check.c(s) + 1) % 4);
    }

    @Says("10 to 12, that of the variable F - 10 minus 1 (modulo 4);")
    static void section2_fillings10To12AreVariablesMinus1() {
        filled(10, s -> (Check.a(s) + 3) % 4);
        filled(11, s -> (Check.b(s) + 3) % 4);
        filled(12, s -> (Check.c(s) + 3) % 4);
    }

    /** Puts the form F into each of the variables, from all states. */
    private static void filled(int f, java.util.function.IntUnaryOperator value) {
        BackwardProofs x = Check.loaded(AHEAD + "hole");
        int[] weights = {1, 4, 16};
        for (int v = 0; v < 3; v++) {
            x.fill(0, 13 * v + f);
            Check.same("the variable of the filling " + (13 * v + f), x.statement(0, 1), v);
            for (int state = 0; state < 64; state++) {
                int old = state / weights[v] % 4;
                int due = state + weights[v] * (value.applyAsInt(state) - old);
                Check.same("filling " + (13 * v + f) + ": run(" + state + ")", x.run(state), due);
            }
        }
    }

    @Says("(modulo 4)")
    static void section2_fillingsWrapAround() {
        BackwardProofs x = Check.loaded(AHEAD + "hole");
        x.fill(0, 7);
        Check.same("3 plus 1", x.run(3), 0);
        x.fill(0, 10);
        Check.same("0 minus 1", x.run(0), 3);
        x.fill(0, 26 + 9);
        Check.same("c 3 plus 1", x.run(63), 15);
        x.fill(0, 38);
        Check.same("c 0 minus 1", x.run(15), 63);
    }

    @Says("as expressions these are plus and minus of the variable and 1, in this order.")
    static void section2_fillingsAsExpressions() {
        String[] due = {"0", "1", "2", "3", "a", "b", "c", "plus a 1", "plus b 1", "plus c 1", "minus a 1", "minus b 1",
            "minus c 1"};
        BackwardProofs x = Check.loaded("proof true eq plus a b times c 2 hole");
        for (int f = 0; f < 13; f++) {
            x.fill(0, f);
            Check.sameText("filling " + f, Check.written(x, 0), "eq plus " + due[f] + " b times c 2");
            x.fill(0, 13 + f);
            Check.sameText("filling " + (13 + f), Check.written(x, 0), "eq plus a " + due[f] + " times c 2");
            x.fill(0, 26 + f);
            Check.sameText("filling " + (26 + f), Check.written(x, 0), "eq plus a b times " + due[f] + " 2");
        }
    }

    // ---- runs

    @Says("A run begins with a state and does the statements.")
    static void section2_aRunDoesTheStatementsInTheirOrder() {
        BackwardProofs x = Check.loaded(AHEAD + "set a b set b c set c a");
        Check.same("run(4): b is 1", x.run(4), 1 + 16);
        Check.same("run(32): c is 2", x.run(32), 8);
        Check.same("run(3): a is 3", x.run(3), 0);
    }

    @Says("A STEP is each set, each hole, and each look at the condition of an if or a while.")
    static void section2_aProgramWithoutStatementsHasNoStep() {
        Check.same("steps(0)", Check.loaded(AHEAD).steps(0), 0);
    }

    @Says("A STEP is each set")
    static void section2_aSetIsAStepEvenIfItChangesNothing() {
        Check.same("steps(0)", Check.loaded(AHEAD + "set a a set b 0").steps(0), 2);
    }

    @Says("A STEP is each set, each hole")
    static void section2_aHoleIsAStepFilledOrNot() {
        BackwardProofs x = Check.loaded(AHEAD + "hole");
        Check.same("steps(0)", x.steps(0), 1);
        x.fill(0, 38);
        Check.same("steps(0) with a filling", x.steps(0), 1);
    }

    @Says("each look at the condition of an if or a while.")
    static void section2_aLookOfAnIfIsOneStepEvenIfItsRowsAreEmpty() {
        Check.same("steps(0)", Check.loaded(AHEAD + "if eq a 0 else end").steps(0), 1);
        Check.same("steps(1)", Check.loaded(AHEAD + "if eq a 0 else end").steps(1), 1);
    }

    @Says("each look at the condition of an if or a while.")
    static void section2_theLastLookOfAWhileIsAStepToo() {
        Check.same("steps(3): no round", Check.loaded(AHEAD + "while lt a 3 keep true less 0 set a plus a 1 end").steps(3),
                1);
        Check.same("steps(2): one round", Check.loaded(AHEAD + "while lt a 3 keep true less 0 set a plus a 1 end").steps(2),
                3);
        Check.same("steps(0): three", Check.loaded(AHEAD + "while lt a 3 keep true less 0 set a plus a 1 end").steps(0), 7);
    }

    @Says("A run does not end if the condition of a loop is looked at a second time in the same state")
    static void section2_aSecondLookInTheSameStateIsNoEnd() {
        BackwardProofs x = Check.loaded(AHEAD + "while true keep true less 0 end");
        Check.same("run(0) of an empty row", x.run(0), -1);
        BackwardProofs y = Check.loaded(AHEAD + "while eq a 1 keep true less 0 hole end");
        Check.same("run(0)", y.run(0), 0);
        Check.same("run(1)", y.run(1), -1);
    }

    @Says("A run does not end if the condition of a loop is looked at a second time in the same state")
    static void section2_theStateThatComesAgainMayBeALaterOne() {
        // 0 goes to 1, to 2, to 3 and from there to 2 again
        BackwardProofs x = Check.loaded("proof and eq a 0 and eq b 0 eq c 0 true while true keep true less 0 "
                + "if eq a 3 set a 2 else set a plus a 1 end end");
        Check.same("run(0)", x.run(0), -1);
        Check.same("met(0)", x.met(0), 15L);
    }

    @Says("A run does not end if the condition of a loop is looked at a second time in the same state")
    static void section2_64LooksInStatesThatDifferMayEnd() {
        BackwardProofs x = Check.loaded(AHEAD + "while not and eq a 3 and eq b 3 eq c 3 keep true less 0 " + COUNT_UP
                + "end");
        for (int state = 0; state < 64; state++) {
            Check.same("run(" + state + ")", x.run(state), 63);
        }
        Check.same("rounds(0)", x.rounds(0), 63);
    }

    @Says("A run does not end if the condition of a loop is looked at a second time in the same state")
    static void section2_a65thLookIsNoEnd() {
        BackwardProofs x = Check.loaded("proof and eq a 0 and eq b 0 eq c 0 true while true keep true less 0 " + COUNT_UP
                + "end");
        Check.same("run(0)", x.run(0), -1);
        Check.same("run(63)", x.run(63), -1);
        Check.same("met(0)", x.met(0), -1L);
    }

    @Says("and the run did not come out of this loop in between;")
    static void section2_aLoopMayBeBegunAgainInTheSameState() {
        BackwardProofs x = Check.loaded("proof and eq a 0 and eq b 0 eq c 0 true while lt a 3 keep true less 0 set b 2 "
                + "while lt 0 b keep true less b set b minus b 1 end if eq c 0 set c 1 else set c 0 set a plus a 1 end end");
        Check.same("run(0)", x.run(0), 3);
        // six rounds of the outer loop: two looks for each a, the inner loop with the same b each time
        Check.same("steps(0)", x.steps(0), 1 + 3 * (1 + 1 + 5 + 1 + 1) + 3 * (1 + 1 + 5 + 1 + 2));
        Check.same("rounds(1)", x.rounds(1), 2);
    }

    @Says("and the run did not come out of this loop in between;")
    static void section2_aLoopThatIsOnlyBegunAgainAndAgainStillDoesNotEndIfTheOuterOneDoesNot() {
        BackwardProofs x = Check.loaded("proof true true while true keep true less 0 set b 1 "
                + "while lt 0 b keep true less b set b minus b 1 end end");
        Check.same("run(0)", x.run(0), -1);
        Check.same("safe(1): alone it ends", x.safe(1), -1L);
    }

    @Says("it is followed until then.")
    static void section2_aRunThatDoesNotEndIsFollowedToItsSecondLook() {
        BackwardProofs x = Check.loaded("proof and eq a 0 and eq b 0 eq c 0 true hole while lt a 2 keep true less 0 "
                + "set a minus 1 a set b 3 end set c 3");
        Check.same("run(0)", x.run(0), -1);
        Check.same("met(0)", x.met(0), 1L);
        Check.same("met(1)", x.met(1), 1L << 0 | 1L << 13 | 1L << 12);
        Check.same("met(2)", x.met(2), 1L << 0 | 1L << 13 | 1L << 12);
        Check.same("met(3)", x.met(3), 1L << 1 | 1L << 12 | 1L << 13);
        Check.same("met(4): behind the loop", x.met(4), 0L);
    }

    // ---- prices and costs

    @Says("Each statement has a PRICE in tenths (0 to 99; 10 at first).")
    static void section2_thePriceIs10AtFirst() {
        BackwardProofs x = Check.loaded(AHEAD + "set a 1 if true hole else end while true keep true less 0 end");
        for (int statement = 0; statement < 4; statement++) {
            Check.same("statement(" + statement + ", 5)", x.statement(statement, 5), 10);
        }
        Check.sameFloat("cost(0) of one set", Check.loaded(AHEAD + "set a 1").cost(0), 1.0f);
    }

    @Says("Each statement has a PRICE in tenths (0 to 99; 10 at first).")
    static void section2_thePriceMayBe0Or99() {
        BackwardProofs x = Check.loaded(AHEAD + "hole");
        x.setPrice(0, 0);
        Check.sameFloat("cost(0) at the price 0", x.cost(0), 0.0f);
        x.setPrice(0, 99);
        Check.sameFloat("cost(0) at the price 99", x.cost(0), 99.0f / 10.0f);
    }

    @Says("The COST of a run that ends is a float, 0.0f at first")
    static void section2_theCostOfNoStepIs0() {
        Check.same("costBits(0)", Check.loaded(AHEAD).costBits(0), 0);
    }

    @Says("to which for each STEP in their order the PRICE of its statement as a float, divided by 10.0f, is added.")
    static void section2_theCostsAreAddedInTheOrderOfTheSteps() {
        BackwardProofs x = Check.loaded(AHEAD + "hole ".repeat(24));
        x.setPrice(0, 99);
        for (int statement = 1; statement < 24; statement++) {
            x.setPrice(statement, 1);
        }
        float dearFirst = 9.9f;
        for (int i = 0; i < 23; i++) {
            dearFirst = dearFirst + 0.1f;
        }
        Check.sameFloat("cost(0), the dear one first", x.cost(0), dearFirst);
        x.setPrice(0, 1);
        x.setPrice(23, 99);
        float dearLast = 0.0f;
        for (int i = 0; i < 23; i++) {
            dearLast = dearLast + 0.1f;
        }
        dearLast = dearLast + 9.9f;
        Check.sameFloat("cost(0), the dear one last", x.cost(0), dearLast);
        Check.same("the two differ", dearFirst == dearLast ? 1 : 0, 0);
    }

    @Says("to which for each STEP in their order the PRICE of its statement as a float, divided by 10.0f, is added.")
    static void section2_eachStepOfALoopIsAddedOnItsOwn() {
        BackwardProofs x = Check.loaded(AHEAD + "while not and eq a 3 and eq b 3 eq c 3 keep true less 0 " + COUNT_UP
                + "end");
        for (int statement = 0; statement < 6; statement++) {
            x.setPrice(statement, 1);
        }
        float due = 0.0f;
        for (int i = 0; i < 64 + 63 * 2 + 15 * 2 + 3; i++) {
            due = due + 1.0f / 10.0f;
        }
        Check.sameFloat("cost(0)", x.cost(0), due);
        Check.same("not the product", due == 223 * 0.1f ? 1 : 0, 0);
    }
}
