/** Section 1 of the Terms, STATES: a case for each boundary that its sentences name. */
public final class Section1Test {
    private static final String NOTS_29 = "not ".repeat(29);
    private static final String SUM_29 = "plus a ".repeat(14) + "a";
    private static final String SUM_31 = "plus a ".repeat(15) + "a";

    private Section1Test() {
    }

    public static void main(String[] args) {
        Cases.run(Section1Test.class);
    }

    // ---- variables, states, sets

    @Says("There are three variables a, b and c (numbered 0, 1, 2)")
    static void section1_theVariablesAreNumbered0To2() {
        BackwardProofs x = Check.loaded("proof true true set a 0 set b 0 set c 0");
        Check.same("statement(0, 1)", x.statement(0, 1), 0);
        Check.same("statement(1, 1)", x.statement(1, 1), 1);
        Check.same("statement(2, 1)", x.statement(2, 1), 2);
    }

    @Says("There are three variables a, b and c")
    static void section1_thereIsNoVariableD() {
        Check.refused("proof true true set d 0", 1, 20);
        Check.refused("proof true true set a d", 1, 22);
    }

    @Says("each with a value 0 to 3")
    static void section1_theLeastValueIs0() {
        Check.same("a", Check.value("a", 0), 0);
        Check.same("b", Check.value("b", 0), 0);
        Check.same("c", Check.value("c", 0), 0);
    }

    @Says("each with a value 0 to 3")
    static void section1_theGreatestValueIs3() {
        Check.same("a", Check.value("a", 63), 3);
        Check.same("b", Check.value("b", 63), 3);
        Check.same("c", Check.value("c", 63), 3);
    }

    @Says("A state is a number, a + 4 * b + 16 * c (0 to 63).")
    static void section1_aStateIsOneAFourBAndSixteenC() {
        Check.same("a 1", Check.loaded("proof true true set a 1").run(0), 1);
        Check.same("b 1", Check.loaded("proof true true set b 1").run(0), 4);
        Check.same("c 1", Check.loaded("proof true true set c 1").run(0), 16);
        for (int state = 0; state < 64; state++) {
            int from = state;
            String there = "and eq a " + state % 4 + " and eq b " + state / 4 % 4 + " eq c " + state / 16;
            Check.same("the state of " + there, Check.holding(there), Check.states(s -> s == from));
        }
    }

    @Says("A state is a number, a + 4 * b + 16 * c (0 to 63).")
    static void section1_theLeastStateIs0() {
        Check.same("all are 0", Check.loaded("proof true true set a 0 set b 0 set c 0").run(63), 0);
    }

    @Says("A state is a number, a + 4 * b + 16 * c (0 to 63).")
    static void section1_theGreatestStateIs63() {
        Check.same("all are 3", Check.loaded("proof true true set a 3 set b 3 set c 3").run(0), 63);
    }

    @Says("bit s (of the value 2 to the power of s; bit 63 is the sign) is 1 if the state s is in it.")
    static void section1_state0IsBit0() {
        Check.same("the set of state 0", Check.holding("and eq a 0 and eq b 0 eq c 0"), 1L);
    }

    @Says("bit 63 is the sign")
    static void section1_state63IsTheSign() {
        Check.same("the set of state 63", Check.holding("and eq a 3 and eq b 3 eq c 3"), Long.MIN_VALUE);
        Check.same("the set of all others", Check.holding("not and eq a 3 and eq b 3 eq c 3"), Long.MAX_VALUE);
    }

    @Says("bit s (of the value 2 to the power of s; bit 63 is the sign) is 1 if the state s is in it.")
    static void section1_states31And32AreInTheTwoHalvesOfTheLong() {
        Check.same("the set of state 31", Check.holding("and eq a 3 and eq b 3 eq c 1"), 2147483648L);
        Check.same("the set of state 32", Check.holding("and eq a 0 and eq b 0 eq c 2"), 4294967296L);
    }

    @Says("A set of states is told as a long")
    static void section1_theEmptySetIs0() {
        Check.same("the set of no state", Check.holding("false"), 0L);
    }

    @Says("A set of states is told as a long")
    static void section1_theSetOfAllStatesIsMinus1() {
        Check.same("the set of all states", Check.holding("true"), -1L);
    }

    // ---- expressions

    @Says("An EXPRESSION has a value 0 to 3 in each state: a number;")
    static void section1_aNumberIsItsValueInEachState() {
        for (int number = 0; number < 4; number++) {
            Check.same("" + number, Check.value("" + number, 0), number);
            Check.same("" + number, Check.value("" + number, 63), number);
        }
    }

    @Says("a variable;")
    static void section1_aVariableIsItsValueInEachState() {
        for (int state = 0; state < 64; state++) {
            Check.same("a in " + state, Check.value("a", state), Check.a(state));
            Check.same("b in " + state, Check.value("b", state), Check.b(state));
            Check.same("c in " + state, Check.value("c", state), Check.c(state));
        }
    }

    @Says("plus, minus and times of two expressions, modulo 4 (0 to 3).")
    static void section1_plusWrapsAroundAt4() {
        Check.same("0 + 3", Check.value("plus 0 3", 0), 3);
        Check.same("3 + 1", Check.value("plus 3 1", 0), 0);
        Check.same("1 + 3", Check.value("plus 1 3", 0), 0);
        Check.same("2 + 2", Check.value("plus 2 2", 0), 0);
        Check.same("3 + 3", Check.value("plus 3 3", 0), 2);
        for (int state = 0; state < 64; state++) {
            Check.same("a + b in " + state, Check.value("plus a b", state), (state % 4 + state / 4) % 4);
        }
    }

    @Says("plus, minus and times of two expressions, modulo 4 (0 to 3).")
    static void section1_minusWrapsAroundBelow0() {
        Check.same("3 - 3", Check.value("minus 3 3", 0), 0);
        Check.same("0 - 1", Check.value("minus 0 1", 0), 3);
        Check.same("0 - 3", Check.value("minus 0 3", 0), 1);
        Check.same("2 - 3", Check.value("minus 2 3", 0), 3);
        Check.same("3 - 0", Check.value("minus 3 0", 0), 3);
        for (int state = 0; state < 64; state++) {
            Check.same("a - b in " + state, Check.value("minus a b", state), (state % 4 + 4 - state / 4 % 4) % 4);
        }
    }

    @Says("plus, minus and times of two expressions, modulo 4 (0 to 3).")
    static void section1_timesWrapsAroundAt4() {
        Check.same("0 * 3", Check.value("times 0 3", 0), 0);
        Check.same("1 * 3", Check.value("times 1 3", 0), 3);
        Check.same("2 * 2", Check.value("times 2 2", 0), 0);
        Check.same("2 * 3", Check.value("times 2 3", 0), 2);
        Check.same("3 * 3", Check.value("times 3 3", 0), 1);
        for (int state = 0; state < 64; state++) {
            Check.same("a * b in " + state, Check.value("times a b", state), state % 4 * (state / 4 % 4) % 4);
        }
    }

    @Says("modulo 4 (0 to 3).")
    static void section1_whatWrappedAroundGoesOnAsItIs() {
        Check.same("(3 + 3) * 3", Check.value("times plus 3 3 3", 0), 2);
        Check.same("0 - (3 + 1)", Check.value("minus 0 plus 3 1", 0), 0);
        Check.same("(0 - 1) + 2", Check.value("plus minus 0 1 2", 0), 1);
        Check.same("1 - (0 - 3)", Check.value("minus 1 minus 0 3", 0), 0);
    }

    // ---- conditions

    @Says("A CONDITION holds or does not: true; false;")
    static void section1_trueHoldsInAllStatesAndFalseInNone() {
        Check.same("true", Check.holding("true"), -1L);
        Check.same("false", Check.holding("false"), 0L);
    }

    @Says("eq and lt of two expressions (the first equals, or is less than, the second one);")
    static void section1_eqHoldsForEqualValuesAlone() {
        Check.same("3 = 3", Check.holding("eq 3 3"), -1L);
        Check.same("0 = 3", Check.holding("eq 0 3"), 0L);
        Check.same("1 = 3", Check.holding("eq 1 3"), 0L);
        Check.same("2 = 3", Check.holding("eq 2 3"), 0L);
        Check.same("a = c", Check.holding("eq a c"), Check.states(s -> s % 4 == s / 16));
    }

    @Says("eq and lt of two expressions (the first equals, or is less than, the second one);")
    static void section1_ltDoesNotHoldForEqualValues() {
        Check.same("0 < 0", Check.holding("lt 0 0"), 0L);
        Check.same("3 < 3", Check.holding("lt 3 3"), 0L);
        Check.same("c < c", Check.holding("lt c c"), 0L);
    }

    @Says("eq and lt of two expressions (the first equals, or is less than, the second one);")
    static void section1_ltLooksWhetherTheFirstIsLess() {
        Check.same("0 < 1", Check.holding("lt 0 1"), -1L);
        Check.same("1 < 0", Check.holding("lt 1 0"), 0L);
        Check.same("2 < 3", Check.holding("lt 2 3"), -1L);
        Check.same("3 < 2", Check.holding("lt 3 2"), 0L);
        Check.same("1 < 2", Check.holding("lt 1 2"), -1L);
        Check.same("2 < 1", Check.holding("lt 2 1"), 0L);
        Check.same("0 < 3", Check.holding("lt 0 3"), -1L);
        Check.same("3 < 0", Check.holding("lt 3 0"), 0L);
        Check.same("b < c", Check.holding("lt b c"), Check.states(s -> s / 4 % 4 < s / 16));
    }

    @Says("eq and lt of two expressions (the first equals, or is less than, the second one);")
    static void section1_eqAndLtLookAtValuesThatWrappedAround() {
        Check.same("3 + 1 = 0", Check.holding("eq plus 3 1 0"), -1L);
        Check.same("3 + 1 < 1", Check.holding("lt plus 3 1 1"), -1L);
        Check.same("0 - 1 < 1", Check.holding("lt minus 0 1 1"), 0L);
        Check.same("2 < 0 - 1", Check.holding("lt 2 minus 0 1"), -1L);
    }

    @Says("not;")
    static void section1_notTurnsAround() {
        Check.same("not true", Check.holding("not true"), 0L);
        Check.same("not false", Check.holding("not false"), -1L);
        Check.same("not a = 0", Check.holding("not eq a 0"), Check.states(s -> s % 4 != 0));
        Check.same("not not a = 0", Check.holding("not not eq a 0"), Check.states(s -> s % 4 == 0));
    }

    @Says("and; or.")
    static void section1_andHoldsIfBothHold() {
        Check.same("true and true", Check.holding("and true true"), -1L);
        Check.same("true and false", Check.holding("and true false"), 0L);
        Check.same("false and true", Check.holding("and false true"), 0L);
        Check.same("false and false", Check.holding("and false false"), 0L);
    }

    @Says("and; or.")
    static void section1_orHoldsIfOneHolds() {
        Check.same("true or true", Check.holding("or true true"), -1L);
        Check.same("true or false", Check.holding("or true false"), -1L);
        Check.same("false or true", Check.holding("or false true"), -1L);
        Check.same("false or false", Check.holding("or false false"), 0L);
    }

    // ---- nodes

    @Says("Each word, variable or number of one of these is a NODE;")
    static void section1_eachWordVariableAndNumberIsOneNode() {
        nodes("set a 0", 1);
        nodes("set a 003", 1);
        nodes("set a b", 1);
        nodes("set a plus a 1", 3);
        nodes("set a minus times a b c", 5);
        nodes("if true else end", 1);
        nodes("if false else end", 1);
        nodes("if eq a 1 else end", 3);
        nodes("if lt plus a b 1 else end", 5);
        nodes("if not true else end", 2);
        nodes("if and true or false true else end", 5);
    }

    private static void nodes(String statement, int due) {
        Check.same("nodes of " + statement, Check.loaded("proof true true " + statement).statement(0, 6), due);
    }

    @Says("an expression or condition that stands in no other one has at most 30 NODEs.")
    static void section1_aConditionOf30NodesIsTaken() {
        BackwardProofs x = Check.loaded("proof " + NOTS_29 + "false " + NOTS_29 + "true");
        Check.same("before()", x.before(), -1L);
        Check.same("after()", x.after(), 0L);
    }

    @Says("an expression or condition that stands in no other one has at most 30 NODEs.")
    static void section1_aConditionOf31NodesIsRefused() {
        Check.refused("proof " + NOTS_29 + "not true true", 4, 6 + 120);
        Check.refused("proof true " + NOTS_29 + "not true", 4, 11 + 120);
    }

    @Says("an expression or condition that stands in no other one has at most 30 NODEs.")
    static void section1_anExpressionOf29NodesIsTakenAndOneOf31IsRefused() {
        Check.same("nodes", Check.loaded("proof true true set c " + SUM_29).statement(0, 6), 29);
        Check.refused("proof true true set c " + SUM_31, 4, 22 + 15 * 7);
    }

    @Says("an expression or condition that stands in no other one has at most 30 NODEs.")
    static void section1_theNodesOfExpressionsCountInTheirCondition() {
        String half = "plus a ".repeat(6) + "a ";
        BackwardProofs x = Check.loaded("proof true not not not eq " + half + half);
        Check.same("3 + 1 + 13 + 13 nodes: after()", x.after(), Check.states(s -> false));
        String text = "proof true not not not not eq " + half + half;
        Check.refused(text, 4, text.length() - 2);
    }

    @Says("that stands in no other one")
    static void section1_eachOfTheFiveConditionsAndTwoExpressionsHas30NodesOfItsOwn() {
        String most = NOTS_29 + "true ";
        BackwardProofs x = Check.loaded("proof " + most + most + "while " + most + "keep " + most + "less b end");
        Check.same("nodes of a while", x.statement(0, 6), 30 + 30 + 1);
        BackwardProofs y = Check.loaded("proof true true if " + most + "set a " + SUM_29 + " set b " + SUM_29
                + " else end while true keep true less " + SUM_29 + " end");
        Check.same("nodes of an if", y.statement(0, 6), 30);
        Check.same("nodes of a set", y.statement(1, 6), 29);
        Check.same("nodes of the next set", y.statement(2, 6), 29);
        Check.same("nodes of a while", y.statement(3, 6), 1 + 1 + 29);
    }

    @Says("has at most 30 NODEs.")
    static void section1_the31stNodeIsRefusedWhereverItStands() {
        String nots = NOTS_29 + "not ";
        Check.refused("proof true true if " + nots + "true else end", 4, 19 + 120);
        Check.refused("proof true true while " + nots + "true keep true less 0 end", 4, 22 + 120);
        Check.refused("proof true true while true keep " + nots + "true less 0 end", 4, 32 + 120);
        Check.refused("proof true true while true keep true less " + SUM_31 + " end", 4, 42 + 105);
    }
}
