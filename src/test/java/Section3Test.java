/** Section 3 of the Terms, NEEDS AND DUTIES: a case for each boundary that its sentences name. */
public final class Section3Test {
    private static final String DOWN = "set a minus a 1 ";

    private Section3Test() {
    }

    public static void main(String[] args) {
        Cases.run(Section3Test.class);
    }

    // ---- needs

    @Says("The NEED behind the last statement of the program is AFTER.")
    static void section3_behindTheLastStatementIsAfter() {
        BackwardProofs x = Check.loaded("proof true eq c 2 hole hole");
        Check.same("need(1)", x.need(1), Check.states(s -> Check.c(s) == 2));
        Check.setAfter(x, "false");
        Check.same("need(1) of an empty AFTER", x.need(1), 0L);
        Check.setAfter(x, "true");
        Check.same("need(1) of a full AFTER", x.need(1), -1L);
    }

    @Says("The NEED behind the last statement of the program is AFTER.")
    static void section3_withoutStatementsTheNeedAheadIsAfter() {
        Check.same("needAhead()", Check.loaded("proof false and eq a 3 and eq b 3 eq c 3").needAhead(), Long.MIN_VALUE);
    }

    @Says("(behind the last statement of a row of an if, it is that behind the if;")
    static void section3_behindTheLastOfARowOfAnIfIsWhatIsBehindTheIf() {
        BackwardProofs x = Check.loaded("proof true eq a 0 if eq b 0 if eq c 0 hole else hole end else hole end set a b");
        long behind = Check.states(s -> Check.b(s) == 0);
        Check.same("need(5): behind the outer if", x.need(5), behind);
        Check.same("need(2): the first row of the inner if", x.need(2), behind);
        Check.same("need(3): its second row", x.need(3), behind);
        Check.same("need(4): the second row of the outer one", x.need(4), behind);
    }

    @Says("behind the last one of a row of a while, its KEEP):")
    static void section3_behindTheLastOfARowOfAWhileIsItsKeep() {
        BackwardProofs x = Check.loaded("proof true false while true keep eq b 1 less 0 hole end hole");
        Check.same("need(1)", x.need(1), Check.states(s -> Check.b(s) == 1));
        Check.same("need(2): behind the loop", x.need(2), 0L);
    }

    @Says("behind the last one of a row of a while, its KEEP):")
    static void section3_behindAnIfThatIsTheLastOfARowOfAWhileIsItsKeep() {
        BackwardProofs x = Check.loaded("proof true false while true keep eq b 1 less 0 if eq a 0 hole else end end");
        Check.same("need(2)", x.need(2), Check.states(s -> Check.b(s) == 1));
        Check.same("need(1)", x.need(1), Check.states(s -> Check.b(s) == 1));
    }

    @Says("behind the last one of a row of a while, its KEEP):")
    static void section3_behindALoopThatIsTheLastOfARowOfAWhileIsTheOuterKeep() {
        BackwardProofs x = Check.loaded("proof true false while true keep eq b 1 less 0 while false keep true less 0 hole "
                + "end end");
        Check.same("need(2): the inner KEEP", x.need(2), -1L);
        Check.same("failing(5): not the outer KEEP", x.failing(5), Check.states(s -> Check.b(s) != 1));
    }

    @Says("set (and a filled hole): the states that the set changes into one of the NEED behind it;")
    static void section3_theNeedAheadOfASetMayBeAllOrNoStates() {
        Check.same("what is asked is set", Check.loaded("proof true eq a 3 set a 3").need(0), -1L);
        Check.same("what is asked is never set", Check.loaded("proof true eq a 3 set a 2").need(0), 0L);
    }

    @Says("set (and a filled hole): the states that the set changes into one of the NEED behind it;")
    static void section3_theNeedAheadOfASetThatWrapsAround() {
        Check.same("a 0 comes of a 3", Check.loaded("proof true eq a 0 set a plus a 1").need(0),
                Check.states(s -> Check.a(s) == 3));
        Check.same("c 3 comes of c 0", Check.loaded("proof true eq c 3 set c minus c 1").need(0),
                Check.states(s -> Check.c(s) == 0));
        Check.same("b 2 comes of b 1 and b 3", Check.loaded("proof true eq b 2 set b times b 2").need(0),
                Check.states(s -> Check.b(s) % 2 == 1));
    }

    @Says("set (and a filled hole)")
    static void section3_theNeedAheadOfAFilledHoleIsThatOfTheSet() {
        BackwardProofs x = Check.loaded("proof true eq c 3 hole");
        x.fill(0, 38);
        Check.same("need(0)", x.need(0), Check.states(s -> Check.c(s) == 0));
    }

    @Says("by conditions: the variable is swapped for the expression wherever it stands in the NEED;")
    static void section3_theVariableIsSwappedInEachPlace() {
        BackwardProofs x = Check.loaded("proof true and eq a plus a b lt a a set a times c 2");
        Check.sameText("writeNeed(0)", Check.written(x, 0),
                "and eq times c 2 plus times c 2 b lt times c 2 times c 2");
    }

    @Says("by conditions: the variable is swapped for the expression wherever it stands in the NEED;")
    static void section3_nothingIsSwappedWhereTheVariableDoesNotStand() {
        BackwardProofs x = Check.loaded("proof true not lt b c set a 1");
        Check.sameText("writeNeed(0)", Check.written(x, 0), "not lt b c");
    }

    @Says("by conditions: the variable is swapped for the expression wherever it stands in the NEED;")
    static void section3_whatIsPutInIsNotSwappedOnceMore() {
        BackwardProofs x = Check.loaded("proof true eq a b set a plus a a");
        Check.sameText("writeNeed(0)", Check.written(x, 0), "eq plus a a b");
    }

    @Says("a hole that is not filled: the NEED behind it;")
    static void section3_theNeedAheadOfAHoleThatIsNotFilled() {
        BackwardProofs x = Check.loaded("proof true eq b c hole set b a");
        Check.same("need(0)", x.need(0), Check.states(s -> Check.a(s) == Check.c(s)));
        x.fill(0, 0);
        x.fill(0, -1);
        Check.same("need(0), not filled any more", x.need(0), Check.states(s -> Check.a(s) == Check.c(s)));
        Check.sameText("writeNeed(0)", Check.written(x, 0), "eq a c");
    }

    @Says("if: the states in which the condition holds and that are in the NEED ahead of the first row, or does not and that "
            + "are in that ahead of the second one")
    static void section3_theNeedAheadOfAnIfIsThatOfTheRowThatIsDone() {
        BackwardProofs x = Check.loaded("proof true eq a 3 if eq b 2 set a c else set a 3 end");
        Check.same("need(0)", x.need(0), Check.states(s -> Check.b(s) != 2 || Check.c(s) == 3));
        Check.setAfter(x, "eq a 1");
        Check.same("need(0)", x.need(0), Check.states(s -> Check.b(s) == 2 && Check.c(s) == 1));
    }

    @Says("(of an empty row: the NEED behind the if);")
    static void section3_anEmptyFirstRow() {
        BackwardProofs x = Check.loaded("proof true eq a 3 if eq b 2 else set a 3 end");
        Check.same("need(0)", x.need(0), Check.states(s -> Check.b(s) != 2 || Check.a(s) == 3));
        Check.sameText("writeNeed(0)", Check.written(x, 0), "or and eq b 2 eq a 3 and not eq b 2 eq 3 3");
    }

    @Says("(of an empty row: the NEED behind the if);")
    static void section3_anEmptySecondRow() {
        BackwardProofs x = Check.loaded("proof true eq a 3 if eq b 2 set a 3 else end");
        Check.same("need(0)", x.need(0), Check.states(s -> Check.b(s) == 2 || Check.a(s) == 3));
        Check.sameText("writeNeed(0)", Check.written(x, 0), "or and eq b 2 eq 3 3 and not eq b 2 eq a 3");
    }

    @Says("(of an empty row: the NEED behind the if);")
    static void section3_twoEmptyRows() {
        BackwardProofs x = Check.loaded("proof true eq a 3 if eq b 2 else end set a c");
        Check.same("need(0)", x.need(0), Check.states(s -> Check.c(s) == 3));
        Check.sameText("writeNeed(0)", Check.written(x, 0), "or and eq b 2 eq c 3 and not eq b 2 eq c 3");
    }

    @Says("by conditions: or and C N1 and not C N2;")
    static void section3_theConditionOfAnIf() {
        BackwardProofs x = Check.loaded("proof true eq a 3 if lt b c set a 1 else set a 2 end");
        Check.sameText("writeNeed(0)", Check.written(x, 0), "or and lt b c eq 1 3 and not lt b c eq 2 3");
    }

    @Says("while: the states of KEEP.")
    static void section3_theNeedAheadOfAWhileIsKeepWhateverElseIsThere() {
        BackwardProofs x = Check.loaded("proof true false while false keep lt b 3 less 0 end");
        Check.same("need(0): AFTER never holds", x.need(0), Check.states(s -> Check.b(s) < 3));
        Check.setAfter(x, "true");
        Check.setKeep(x, 0, "false");
        Check.same("need(0): KEEP never holds", x.need(0), 0L);
        Check.setKeep(x, 0, "true");
        Check.same("need(0): KEEP always holds", x.need(0), -1L);
    }

    // ---- duties

    @Says("The DUTIES are numbered from 0: duty 0 (of the kind 0, of no statement)")
    static void section3_withoutLoopsThereIsDuty0Alone() {
        BackwardProofs x = Check.loaded("proof true true hole");
        Check.same("value(4)", x.value(4), 1);
        Check.same("duty(0, 0)", x.duty(0, 0), 0);
        Check.same("duty(0, 1)", x.duty(0, 1), -1);
    }

    @Says("is that all states of BEFORE are in the NEED ahead of the program;")
    static void section3_duty0FailsForTheStatesOfBeforeOutOfTheNeed() {
        BackwardProofs x = Check.loaded("proof lt a 2 lt b 2 set c 1");
        Check.same("failing(0)", x.failing(0), Check.states(s -> Check.a(s) < 2 && Check.b(s) >= 2));
        Check.setBefore(x, "false");
        Check.same("failing(0) of an empty BEFORE", x.failing(0), 0L);
        Check.setBefore(x, "lt b 2");
        Check.same("failing(0) of the need itself", x.failing(0), 0L);
        Check.setBefore(x, "true");
        Check.setAfter(x, "false");
        Check.same("failing(0): all states", x.failing(0), -1L);
    }

    @Says("then for each loop, by its number, three ones:")
    static void section3_eachLoopHasThreeDutiesInARow() {
        BackwardProofs x = Check.loaded("proof true true hole while true keep true less 0 hole while true keep true less 0 "
                + "end end while true keep true less 0 end");
        int[] statements = {1, 3, 4};
        Check.same("value(4)", x.value(4), 10);
        for (int loop = 0; loop < 3; loop++) {
            for (int kind = 1; kind <= 3; kind++) {
                int duty = 3 * loop + kind;
                Check.same("duty(" + duty + ", 0)", x.duty(duty, 0), kind);
                Check.same("duty(" + duty + ", 1)", x.duty(duty, 1), statements[loop]);
            }
        }
    }

    @Says("of the kind 1, that all states of KEEP in which the condition holds are in the NEED ahead of its row")
    static void section3_kind1LooksAtTheStatesOfKeepInWhichTheConditionHolds() {
        BackwardProofs x = Check.loaded("proof true true while lt 0 a keep lt b 2 less a set b plus b 1 end");
        Check.same("failing(1)", x.failing(1), Check.states(s -> Check.a(s) > 0 && Check.b(s) == 1));
        Check.setKeep(x, 0, "true");
        Check.same("failing(1) of a full KEEP", x.failing(1), 0L);
        Check.setKeep(x, 0, "false");
        Check.same("failing(1) of an empty KEEP", x.failing(1), 0L);
    }

    @Says("(of an empty row: in KEEP);")
    static void section3_kind1NeverFailsForAnEmptyRow() {
        BackwardProofs x = Check.loaded("proof true false while true keep eq a 1 less a end");
        Check.same("failing(1)", x.failing(1), 0L);
        Check.same("duty(1, 2)", x.duty(1, 2), 0);
    }

    @Says("of the kind 2, that all states of KEEP in which the condition does not hold are in the NEED behind the loop;")
    static void section3_kind2LooksAtTheStatesOfKeepInWhichTheConditionDoesNotHold() {
        BackwardProofs x = Check.loaded("proof true eq b 0 while lt 0 a keep lt c 2 less a " + DOWN + "end");
        Check.same("failing(2)", x.failing(2),
                Check.states(s -> Check.a(s) == 0 && Check.c(s) < 2 && Check.b(s) != 0));
        Check.setKeep(x, 0, "lt 0 a");
        Check.same("failing(2): the condition holds in all of KEEP", x.failing(2), 0L);
        Check.setKeep(x, 0, "eq b 0");
        Check.same("failing(2): KEEP is in the need", x.failing(2), 0L);
    }

    @Says("are in the NEED behind the loop;")
    static void section3_kind2LooksAtTheNeedOfWhatComesBehind() {
        BackwardProofs x = Check.loaded("proof true eq b 0 while lt 0 a keep true less a " + DOWN + "end set b a");
        Check.same("failing(2): a is 0", x.failing(2), 0L);
        BackwardProofs y = Check.loaded("proof true true while true keep eq c 0 less 0 while false keep true less 0 end end");
        Check.same("failing(5): behind the inner loop is the outer KEEP", y.failing(5), Check.states(s -> Check.c(s) != 0));
    }

    @Says("of the kind 3, that for all states of KEEP in which the condition holds a run of its row ends, and LESS is less "
            + "then than it was.")
    static void section3_kind3FailsIfLessStaysAsItWas() {
        BackwardProofs x = Check.loaded("proof true true while lt 0 a keep true less b " + DOWN + "end");
        Check.same("failing(3)", x.failing(3), Check.states(s -> Check.a(s) > 0));
        BackwardProofs y = Check.loaded("proof true true while lt 0 a keep true less a end");
        Check.same("failing(3) of an empty row", y.failing(3), Check.states(s -> Check.a(s) > 0));
    }

    @Says("and LESS is less then than it was.")
    static void section3_kind3FailsIfLessBecomesGreater() {
        BackwardProofs x = Check.loaded("proof true true while lt a 3 keep true less a set a plus a 1 end");
        Check.same("failing(3)", x.failing(3), Check.states(s -> Check.a(s) < 3));
    }

    @Says("and LESS is less then than it was.")
    static void section3_kind3LooksAtTheLeastAndTheGreatestState() {
        BackwardProofs x = Check.loaded("proof true true while true keep true less minus 3 a set a plus a 1 end");
        Check.same("failing(3): 3 minus a becomes less in state 0", x.failing(3), Check.states(s -> Check.a(s) == 3));
        BackwardProofs y = Check.loaded("proof true true while true keep true less c set c minus c 1 end");
        Check.same("failing(3): c becomes less in state 63", y.failing(3), Check.states(s -> Check.c(s) == 0));
    }

    @Says("and LESS is less then than it was.")
    static void section3_kind3LooksAtValuesThatWrapAround() {
        BackwardProofs x = Check.loaded("proof true true while true keep true less a " + DOWN + "end");
        Check.same("failing(3): 0 becomes 3", x.failing(3), Check.states(s -> Check.a(s) == 0));
        BackwardProofs y = Check.loaded("proof true true while true keep true less a set a plus a 1 end");
        Check.same("failing(3): 3 becomes 0", y.failing(3), Check.states(s -> Check.a(s) < 3));
    }

    @Says("a run of its row ends")
    static void section3_kind3FailsIfTheRowDoesNotEnd() {
        BackwardProofs x = Check.loaded("proof true true while lt 0 a keep true less a " + DOWN
                + "while eq b 3 keep true less 0 end end");
        Check.same("failing(3)", x.failing(3), Check.states(s -> Check.a(s) > 0 && Check.b(s) == 3));
    }

    @Says("that for all states of KEEP in which the condition holds")
    static void section3_kind3LooksAtNoOtherStates() {
        BackwardProofs x = Check.loaded("proof true true while eq a 1 keep eq c 3 less 0 end");
        Check.same("failing(3)", x.failing(3), Check.states(s -> Check.a(s) == 1 && Check.c(s) == 3));
        Check.setKeep(x, 0, "false");
        Check.same("failing(3) of an empty KEEP", x.failing(3), 0L);
        BackwardProofs y = Check.loaded("proof true true while false keep true less 0 end");
        Check.same("failing(3) of a condition that never holds", y.failing(3), 0L);
    }

    @Says("A duty fails for the states for which it is not so.")
    static void section3_aDutyMayFailForOneStateOrForAll() {
        BackwardProofs x = Check.loaded("proof and eq a 3 and eq b 3 eq c 3 false");
        Check.same("failing(0): one state", x.failing(0), Long.MIN_VALUE);
        Check.setBefore(x, "true");
        Check.same("failing(0): all states", x.failing(0), -1L);
    }

    @Says("If no duty fails, the program is PROVEN")
    static void section3_oneDutyThatFailsForOneStateIsEnough() {
        BackwardProofs x = Check.loaded("proof true true while and eq a 1 and eq b 2 eq c 3 keep true less 0 end");
        Check.same("value(6)", x.value(6), 0);
        Check.same("value(5)", x.value(5), 1);
        Check.same("failing(3)", x.failing(3), 1L << 57);
        Check.setKeep(x, 0, "not and eq a 1 and eq b 2 eq c 3");
        Check.setBefore(x, "not and eq a 1 and eq b 2 eq c 3");
        Check.same("value(6)", x.value(6), 1);
    }

    @Says("each run that begins in a state of BEFORE ends, in a state of AFTER.")
    static void section3_aProvenProgramIsNeverWrong() {
        BackwardProofs x = new BackwardProofs();
        Check.same("value(6)", x.value(6), 1);
        Check.same("wrong()", x.wrong(), 0L);
        for (int state = 0; state < 64; state++) {
            if (Check.a(state) < 3) {
                Check.same("run(" + state + ")", x.run(state), 8 + 16 * Check.c(state));
            }
        }
    }

    @Says("the program is PROVEN")
    static void section3_aProgramThatIsNeverWrongNeedNotBeProven() {
        BackwardProofs x = Check.loaded("proof true eq a 0 while lt 0 a keep true less b " + DOWN + "end");
        Check.same("wrong()", x.wrong(), 0L);
        Check.same("value(6)", x.value(6), 0);
        Check.same("trouble()", x.trouble(), 3);
    }
}
