/** Section 5 of the Terms, TEXTS, and what stands behind it: a case for each boundary that its sentences name. */
public final class Section5Test {
    private static final String AHEAD = "proof true true ";
    private static final String LOOP = "while true keep true less 0 ";
    private static final String MANY = AHEAD + "hole ".repeat(24);
    private static final String NOTS_30 = "not ".repeat(30);
    private static final String PLUS_30 = "plus a ".repeat(15);

    private Section5Test() {
    }

    public static void main(String[] args) {
        Cases.run(Section5Test.class);
    }

    private static void taken(String text, int statements) {
        BackwardProofs x = new BackwardProofs();
        Check.same("load of '" + text + "'", Check.load(x, text), statements);
        Check.same("errorCode() of '" + text + "'", x.errorCode(), 0);
        Check.same("errorPosition() of '" + text + "'", x.errorPosition(), -1);
    }

    // ---- the grammar

    private static final String DESCRIPTION = "description = \"proof\" condition condition { statement }";

    @Says(DESCRIPTION)
    static void section5_aDescriptionMayHaveNoStatement() {
        taken("proof true true", 0);
    }

    @Says(DESCRIPTION)
    static void section5_aDescriptionMayHaveAnyNumberOfStatements() {
        taken("proof true true hole", 1);
        taken(MANY, 24);
    }

    @Says(DESCRIPTION)
    static void section5_aDescriptionBeginsWithProof() {
        Check.refused("true true", 1, 0);
        Check.refused("hole", 1, 0);
        Check.refused("proo true true", 1, 0);
        Check.refused("prooff true true", 1, 0);
        Check.refused("proof proof true true", 1, 6);
        Check.refused("proof true true proof", 1, 16);
    }

    @Says(DESCRIPTION)
    static void section5_aDescriptionHasTwoConditions() {
        Check.refused("proof", 1, 5);
        Check.refused("proof true", 1, 10);
        Check.refused("proof hole", 1, 6);
        Check.refused("proof true hole", 1, 11);
        Check.refused("proof true true true", 1, 16);
    }

    private static final String STATEMENT = "statement = \"set\" variable expression "
            + "| \"if\" condition { statement } \"else\" { statement } \"end\" "
            + "| \"while\" condition \"keep\" condition \"less\" expression { statement } \"end\" | \"hole\"";

    @Says(STATEMENT)
    static void section5_aSetHasAVariableAndAnExpression() {
        taken(AHEAD + "set c plus a times b 3", 1);
        Check.refused(AHEAD + "set 0 1", 1, 20);
        Check.refused(AHEAD + "set 4 1", 1, 20);
        Check.refused(AHEAD + "set plus a 1", 1, 20);
        Check.refused(AHEAD + "set a", 1, 21);
        Check.refused(AHEAD + "set a true", 1, 22);
        Check.refused(AHEAD + "set a 1 1", 1, 24);
    }

    @Says(STATEMENT)
    static void section5_anIfMayHaveEmptyRows() {
        taken(AHEAD + "if true else end", 1);
        taken(AHEAD + "if true hole else end", 2);
        taken(AHEAD + "if true else hole end", 2);
    }

    @Says(STATEMENT)
    static void section5_anIfHasAConditionAndOneElseAndAnEnd() {
        Check.refused(AHEAD + "if else end", 1, 19);
        Check.refused(AHEAD + "if a else end", 1, 19);
        Check.refused(AHEAD + "if true end", 1, 24);
        Check.refused(AHEAD + "if true else else end", 1, 29);
        Check.refused(AHEAD + "if true else end end", 1, 33);
        Check.refused(AHEAD + "if true else hole", 1, 33);
    }

    @Says(STATEMENT)
    static void section5_eachIfOfManyInOneAnotherHasItsOwnElseAndEnd() {
        taken(AHEAD + "if true ".repeat(24) + "else end ".repeat(24), 24);
        taken(AHEAD + "if true else ".repeat(24) + "end ".repeat(24), 24);
        Check.refused(AHEAD + "if true else if true else end else end", 1, 46);
        Check.refused(AHEAD + "if true if true else end end", 1, 41);
        Check.refused(AHEAD + "if true ".repeat(24) + "else end ".repeat(24) + "end", 1, 16 + 24 * 17);
    }

    @Says(STATEMENT)
    static void section5_aRowGoesOnBehindAStatementThatHasRows() {
        BackwardProofs x = Check.loaded(AHEAD + "if true hole if true else hole end hole else hole if true hole else end "
                + LOOP + "end hole end hole");
        Check.same("statement(0, 3)", x.statement(0, 3), 3);
        Check.same("statement(0, 4)", x.statement(0, 4), 4);
        Check.same("depth of the last one", x.statement(x.value(0) - 1, 2), 0);
        Check.refused(AHEAD + "if true else hole " + LOOP + "end else end", 1, 66);
    }

    @Says(STATEMENT)
    static void section5_aWhileMayHaveAnEmptyRow() {
        taken(AHEAD + LOOP + "end", 1);
        taken(AHEAD + LOOP + "hole end", 2);
    }

    @Says(STATEMENT)
    static void section5_aWhileHasAConditionAKeepALessAndAnEnd() {
        Check.refused(AHEAD + "while keep true less 0 end", 1, 22);
        Check.refused(AHEAD + "while true true less 0 end", 1, 27);
        Check.refused(AHEAD + "while true keep less 0 end", 1, 32);
        Check.refused(AHEAD + "while true keep true 0 end", 1, 37);
        Check.refused(AHEAD + "while true keep true less end", 1, 42);
        Check.refused(AHEAD + "while true less 0 keep true end", 1, 27);
        Check.refused(AHEAD + LOOP + "else end", 1, 44);
        Check.refused(AHEAD + LOOP + "end end", 1, 48);
        Check.refused(AHEAD + LOOP + "hole", 1, 48);
    }

    @Says(STATEMENT)
    static void section5_endAndElseStandOnlyInARow() {
        Check.refused(AHEAD + "end", 1, 16);
        Check.refused(AHEAD + "else", 1, 16);
        Check.refused(AHEAD + "hole end", 1, 21);
        Check.refused(AHEAD + "keep true", 1, 16);
        Check.refused(AHEAD + "less 0", 1, 16);
    }

    @Says("expression = NUMBER | variable | ( \"plus\" | \"minus\" | \"times\" ) expression expression")
    static void section5_expressions() {
        taken(AHEAD + "set a 0", 1);
        taken(AHEAD + "set a c", 1);
        taken(AHEAD + "set a plus plus a b minus c times 1 2", 1);
        Check.refused(AHEAD + "set a plus", 1, 26);
        Check.refused(AHEAD + "set a plus a", 1, 28);
        Check.refused(AHEAD + "set a plus a b c", 1, 31);
        Check.refused(AHEAD + "set a eq a b", 1, 22);
        Check.refused(AHEAD + "set a plus true a", 1, 27);
    }

    @Says("condition = \"true\" | \"false\" | ( \"eq\" | \"lt\" ) expression expression | \"not\" condition "
            + "| ( \"and\" | \"or\" ) condition condition")
    static void section5_conditions() {
        taken("proof and or true false not eq a plus 1 2 lt 0 c", 0);
        Check.refused("proof true eq a", 1, 15);
        Check.refused("proof true eq", 1, 13);
        Check.refused("proof true lt a b c", 1, 18);
        Check.refused("proof true not", 1, 14);
        Check.refused("proof true and true", 1, 19);
        Check.refused("proof true or eq a 1", 1, 20);
        Check.refused("proof true a", 1, 11);
        Check.refused("proof true 1", 1, 11);
        Check.refused("proof true plus a b", 1, 11);
        Check.refused("proof true and a b", 1, 15);
        Check.refused("proof true not 1", 1, 15);
    }

    @Says("variable = \"a\" | \"b\" | \"c\"")
    static void section5_variables() {
        taken(AHEAD + "set a a set b b set c c", 3);
        Check.refused(AHEAD + "set d a", 1, 20);
        Check.refused(AHEAD + "set aa a", 1, 20);
        Check.refused(AHEAD + "set a z", 1, 22);
    }

    @Says("The conditions behind \"proof\" are BEFORE and AFTER.")
    static void section5_theFirstConditionIsBefore() {
        BackwardProofs x = Check.loaded("proof eq a 0 eq b 3");
        Check.same("before()", x.before(), Check.states(s -> Check.a(s) == 0));
        Check.same("after()", x.after(), Check.states(s -> Check.b(s) == 3));
    }

    // ---- tokens

    private static final String TOKEN = "A token is a word (a run of letters a to z) or a number (a run of digits), and is as "
            + "long as possible.";

    @Says(TOKEN)
    static void section5_aTokenIsAsLongAsPossible() {
        Check.refused("prooftrue true", 1, 0);
        Check.refused("proof truetrue", 1, 6);
        Check.refused(AHEAD + "holehole", 1, 16);
        Check.refused(AHEAD + "set a 11", 2, 22);
        Check.refused(AHEAD + "set a ab", 1, 22);
    }

    @Says(TOKEN)
    static void section5_theBytesNextToTheLettersAreNone() {
        Check.refused("proof `rue true", 1, 6);
        Check.refused("proof true` true", 1, 10);
        Check.refused("proof true{ true", 1, 10);
        Check.refused("proof {rue true", 1, 6);
        Check.refused("Proof true true", 1, 0);
        Check.refused("proof true tRue", 1, 11);
        Check.refused("proof true[ true", 1, 10);
        Check.refused("proof true@ true", 1, 10);
    }

    @Says(TOKEN)
    static void section5_theFirstAndTheLastLetterAreLetters() {
        Check.refused("proof truea true", 1, 6);
        Check.refused("proof truez true", 1, 6);
        Check.refused("proof true truez", 1, 11);
        Check.refused("zproof true true", 1, 0);
        Check.refused(AHEAD + "set z 1", 1, 20);
    }

    @Says(TOKEN)
    static void section5_theBytesNextToTheDigitsAreNone() {
        Check.refused(AHEAD + "set a /", 1, 22);
        Check.refused(AHEAD + "set a :", 1, 22);
        Check.refused(AHEAD + "set a 1/", 1, 23);
        Check.refused(AHEAD + "set a 1:", 1, 23);
        taken(AHEAD + "set a 0", 1);
        // the last digit is one, too
        Check.refused(AHEAD + "set a 9", 2, 22);
    }

    @Says(TOKEN)
    static void section5_aTokenEndsWhereTheTextEnds() {
        BackwardProofs x = new BackwardProofs();
        Check.feed(x, "proof true truezzz");
        Check.same("load(15)", x.load(15), 0);
        Check.feed(x, AHEAD + "set a 1999");
        Check.same("load(23)", x.load(23), 1);
    }

    private static final String BETWEEN = "Between two tokens there is at least one space (byte 32) or line feed (byte 10), "
            + "and any number of these at both ends.";

    @Says(BETWEEN)
    static void section5_oneSpaceOrLineFeedBetweenTokensIsEnough() {
        taken("proof true true set a 1", 1);
        taken("proof\ntrue\ntrue\nset\na\n1", 1);
    }

    @Says(BETWEEN)
    static void section5_manySpacesAndLineFeedsBetweenTokens() {
        taken("proof  true \n\n true\n \nset   a\n\n\n1", 1);
        taken("proof" + " ".repeat(386) + "true" + "\n".repeat(401) + "true", 0);
    }

    @Says("and any number of these at both ends.")
    static void section5_anyNumberAtBothEnds() {
        taken("proof true true", 0);
        taken(" proof true true ", 0);
        taken("\nproof true true\n", 0);
        taken(" \n\n  proof true true\n  \n", 0);
        taken(" ".repeat(785) + "proof true true", 0);
        taken("proof true true" + "\n".repeat(785), 0);
    }

    @Says(BETWEEN)
    static void section5_noOtherByteStandsBetweenTokens() {
        int[] others = {0, 9, 11, 13, 31, 33, 127, 128, 160, 255};
        for (int other : others) {
            Check.refused("proof" + (char) other + "true true", 1, 5);
            Check.refused((char) other + "proof true true", 1, 0);
            Check.refused("proof true true" + (char) other, 1, 15);
            Check.refused("proof true true " + (char) other, 1, 16);
        }
    }

    // ---- the error that is reported

    private static final String LEAST = "The error with the least position (byte index from 0; of a token its first byte) is "
            + "reported, of several at one position the least code:";

    @Says(LEAST)
    static void section5_thePositionIsThatOfTheTokensFirstByte() {
        Check.refused("x", 1, 0);
        Check.refused("   xyz", 1, 3);
        Check.refused(AHEAD + "set a 123", 2, 22);
        Check.refused(AHEAD + "set a     wrong", 1, 26);
    }

    @Says(LEAST)
    static void section5_theLeastPositionIs0AndTheGreatestTheLength() {
        Check.refused("", 1, 0);
        Check.refused(";", 1, 0);
        Check.refused("proof" + " ".repeat(795), 1, 800);
        Check.refused(" ".repeat(799) + ";", 1, 799);
    }

    @Says(LEAST)
    static void section5_ofTwoErrorsTheFirstIsReportedWhateverItsCode() {
        Check.refused("proof true eq a 4 ;", 2, 16);
        Check.refused("proof true; eq a 4", 1, 10);
        Check.refused(MANY + "hole set a 4", 3, 136);
        Check.refused(AHEAD + "set a 4 " + "hole ".repeat(24), 2, 22);
        Check.refused("proof true " + NOTS_30 + "true 7", 4, 131);
        Check.refused("proof true eq 4 " + PLUS_30 + "a", 2, 14);
        Check.refused(AHEAD + "set a " + PLUS_30 + "a set b 4", 4, 127);
        Check.refused(MANY + "set a " + PLUS_30 + "a", 3, 136);
        Check.refused(MANY + "hole;", 3, 136);
        Check.refused(AHEAD + "set a 9x", 2, 22);
    }

    private static final String LEAST_CODE = "of several at one position the least code:";

    @Says(LEAST_CODE)
    static void section5_syntaxComesBeforeRange() {
        // a number above 3 where no number may stand
        Check.refused("9", 1, 0);
        Check.refused("proof 4 true", 1, 6);
        Check.refused(AHEAD + "4", 1, 16);
        Check.refused(AHEAD + "set 4 a", 1, 20);
        Check.refused(AHEAD + "set a 1 4", 1, 24);
        // a number above 3 of more than 3 digits
        Check.refused(AHEAD + "set a 1000", 1, 22);
        Check.refused(AHEAD + "set a 0004", 1, 22);
        // a number above 3 directly behind a word
        Check.refused(AHEAD + "set a plus4 a", 1, 26);
    }

    @Says(LEAST_CODE)
    static void section5_syntaxComesBeforeLarge() {
        Check.refused("proof true " + NOTS_30, 1, 131);
        Check.refused("proof true " + NOTS_30 + "hole", 1, 131);
        Check.refused("proof true " + NOTS_30 + "a", 1, 131);
        Check.refused("proof true " + NOTS_30 + "4", 1, 131);
        Check.refused("proof true " + NOTS_30 + ";", 1, 131);
        Check.refused(AHEAD + "set a " + PLUS_30, 1, 127);
        Check.refused(AHEAD + "set a " + PLUS_30 + "true", 1, 127);
        Check.refused(AHEAD + "set a " + PLUS_30 + "0000", 1, 127);
    }

    @Says(LEAST_CODE)
    static void section5_rangeComesBeforeLarge() {
        Check.refused(AHEAD + "set a " + PLUS_30 + "4", 2, 127);
        Check.refused(AHEAD + "set a " + PLUS_30 + "3", 4, 127);
        Check.refused("proof true eq " + "plus a ".repeat(14) + "0 4", 2, 114);
    }

    @Says(LEAST_CODE)
    static void section5_syntaxComesBeforeMany() {
        Check.refused(MANY + "end", 1, 136);
        Check.refused(MANY + "holes", 1, 136);
        Check.refused(MANY + "4", 1, 136);
        // the 25th statement's word directly behind a number
        Check.refused(AHEAD + "hole ".repeat(23) + "set a 1hole", 1, 138);
    }

    @Says("1 SYNTAX: a token that the grammar does not allow there;")
    static void section5_syntaxOfATokenThatIsNotAllowed() {
        Check.refused("proof true hole", 1, 11);
        Check.refused(AHEAD + "wile true", 1, 16);
        Check.refused(AHEAD + "set a if", 1, 22);
        Check.refused(AHEAD + "0", 1, 16);
    }

    @Says("a word directly behind a number, or a number directly behind a word;")
    static void section5_syntaxOfAWordDirectlyBehindANumber() {
        Check.refused(AHEAD + "set a 1hole", 1, 23);
        Check.refused(AHEAD + "set a 003hole", 1, 25);
        Check.refused("proof true eq 1a", 1, 15);
        Check.refused("proof eq 1 2true", 1, 12);
    }

    @Says("a word directly behind a number, or a number directly behind a word;")
    static void section5_syntaxOfANumberDirectlyBehindAWord() {
        Check.refused(AHEAD + "set a plus1 1", 1, 26);
        Check.refused(AHEAD + "set a1", 1, 21);
        Check.refused("proof0", 1, 5);
        Check.refused("proof true true0", 1, 15);
        // directly behind the first word of the text
        BackwardProofs x = new BackwardProofs();
        Check.throwsState("setBefore()", () -> Check.setBefore(x, "eq1 1"));
        Check.same("errorPosition() of eq1 1", x.errorPosition(), 2);
        Check.throwsState("setLess()", () -> Check.setLess(x, 0, "plus1 1"));
        Check.same("errorPosition() of plus1 1", x.errorPosition(), 4);
    }

    @Says("a number of more than 3 digits;")
    static void section5_aNumberOf3DigitsIsTaken() {
        taken(AHEAD + "set a 003", 1);
        taken(AHEAD + "set a 000", 1);
        taken(AHEAD + "set a 01", 1);
        Check.same("the value of 003", Check.value("003", 0), 3);
        Check.same("the value of 02", Check.value("02", 0), 2);
    }

    @Says("a number of more than 3 digits;")
    static void section5_syntaxOfANumberOf4Digits() {
        Check.refused(AHEAD + "set a 0003", 1, 22);
        Check.refused(AHEAD + "set a 0000", 1, 22);
        Check.refused(AHEAD + "set a 1000", 1, 22);
        Check.refused(AHEAD + "set a 00000000000000000001", 1, 22);
        Check.refused(AHEAD + "set a 4294967296", 1, 22);
    }

    @Says("any other byte;")
    static void section5_syntaxOfAnyOtherByte() {
        for (int other = 0; other < 256; other++) {
            boolean known = other == 10 || other == 32 || other >= '0' && other <= '9' || other >= 'a' && other <= 'z';
            if (!known) {
                Check.refused("proof true true   " + (char) other, 1, 18);
            }
        }
    }

    @Says("the end of the text where more is needed (position: the length).")
    static void section5_syntaxOfTheEndOfTheText() {
        Check.refused("", 1, 0);
        Check.refused("proof", 1, 5);
        Check.refused("proof true", 1, 10);
        Check.refused("proof true not", 1, 14);
        Check.refused("proof true eq a", 1, 15);
        Check.refused(AHEAD + "set", 1, 19);
        Check.refused(AHEAD + "set a", 1, 21);
        Check.refused(AHEAD + "if", 1, 18);
        Check.refused(AHEAD + "if true", 1, 23);
        Check.refused(AHEAD + "if true else", 1, 28);
        Check.refused(AHEAD + "while", 1, 21);
        Check.refused(AHEAD + "while true", 1, 26);
        Check.refused(AHEAD + "while true keep", 1, 31);
        Check.refused(AHEAD + "while true keep true", 1, 36);
        Check.refused(AHEAD + "while true keep true less", 1, 41);
        Check.refused(AHEAD + "while true keep true less 0", 1, 43);
    }

    @Says("(position: the length)")
    static void section5_theEndIsTheLengthEvenBehindSpaces() {
        Check.refused("   ", 1, 3);
        Check.refused("proof true \n ", 1, 13);
        BackwardProofs x = new BackwardProofs();
        Check.feed(x, "proof true true hole");
        Check.throwsState("load(10)", () -> x.load(10));
        Check.same("errorPosition(): not the buffer's length", x.errorPosition(), 10);
    }

    @Says("2 RANGE: a number above 3.")
    static void section5_theNumber3IsTakenAnd4IsRefused() {
        taken(AHEAD + "set a 3", 1);
        Check.refused(AHEAD + "set a 4", 2, 22);
        Check.refused(AHEAD + "set a 04", 2, 22);
        Check.refused(AHEAD + "set a 004", 2, 22);
        Check.refused(AHEAD + "set a 10", 2, 22);
        Check.refused(AHEAD + "set a 100", 2, 22);
        Check.refused(AHEAD + "set a 999", 2, 22);
    }

    @Says("2 RANGE: a number above 3.")
    static void section5_rangeWhereverANumberMayStand() {
        Check.refused("proof eq 4 0 true", 2, 9);
        Check.refused("proof true lt a 5", 2, 16);
        Check.refused(AHEAD + "if eq 0 6 else end", 2, 24);
        Check.refused(AHEAD + "while true keep true less 7 end", 2, 42);
        Check.refused(AHEAD + "set a plus 8 0", 2, 27);
    }

    @Says("3 MANY: the first word of a 25th statement.")
    static void section5_manyAtTheFirstWordOfEachKindOfStatement() {
        Check.refused(MANY + "hole", 3, 136);
        Check.refused(MANY + "set", 3, 136);
        Check.refused(MANY + "if", 3, 136);
        Check.refused(MANY + " \n while", 3, 139);
    }

    @Says("3 MANY: the first word of a 25th statement.")
    static void section5_manyInARowOfAnotherStatement() {
        Check.refused(AHEAD + "hole ".repeat(23) + "if true hole else end", 3, 139);
        Check.refused(AHEAD + "hole ".repeat(23) + "if true else hole end", 3, 144);
        Check.refused(AHEAD + "hole ".repeat(23) + LOOP + "hole end", 3, 159);
    }

    @Says("4 LARGE: the token of a 31st NODE.")
    static void section5_largeAtThe31stNodeAlone() {
        taken("proof true " + "not ".repeat(29) + "true", 0);
        Check.refused("proof true " + NOTS_30 + "true", 4, 131);
        Check.refused("proof true " + NOTS_30 + "not true", 4, 131);
        Check.refused("proof true " + NOTS_30 + "eq a 1", 4, 131);
        Check.refused("proof true " + "not ".repeat(28) + "eq a 1", 4, 11 + 28 * 4 + 5);
        Check.refused("proof true " + "not ".repeat(29) + "eq a 1", 4, 11 + 29 * 4 + 3);
        taken("proof true " + "not ".repeat(27) + "eq a 1", 0);
    }

    // ---- what stands behind section 5

    private static final String SEVERAL = "If several exceptions apply to a call, the one that is listed first in its "
            + "description is thrown.";

    @Says(SEVERAL)
    static void section5_loadOfAWrongLengthAndAWrongText() {
        BackwardProofs x = new BackwardProofs();
        Check.feed(x, "wrong");
        Check.throwsArgument("load(21)", () -> x.load(21));
        Check.throwsArgument("load(-1)", () -> x.load(-1));
        Check.throwsArgument("setBefore(21)", () -> x.setBefore(21));
        Check.throwsArgument("setAfter(-1)", () -> x.setAfter(-1));
        Check.throwsArgument("setKeep(0, 21)", () -> x.setKeep(0, 21));
        Check.throwsArgument("setLess(0, -1)", () -> x.setLess(0, -1));
        Check.same("errorCode(): nothing was parsed", x.errorCode(), 0);
    }

    @Says(SEVERAL)
    static void section5_noSuchStatementLoopDutyOrHoleAndAWrongArgument() {
        BackwardProofs x = new BackwardProofs();
        Check.throwsMissing("statement(4, 8)", () -> x.statement(4, 8));
        Check.throwsMissing("loopSet(1, 2)", () -> x.loopSet(1, 2));
        Check.throwsMissing("less(1, 64)", () -> x.less(1, 64));
        Check.throwsMissing("duty(4, 4)", () -> x.duty(4, 4));
        Check.throwsMissing("fill(1, 39)", () -> x.fill(1, 39));
        Check.throwsMissing("setPrice(4, 100)", () -> x.setPrice(4, 100));
    }

    @Says(SEVERAL)
    static void section5_noSuchLoopAndAWrongLengthOrText() {
        BackwardProofs x = new BackwardProofs();
        Check.feed(x, "wrong");
        Check.throwsMissing("setKeep(1, 21)", () -> x.setKeep(1, 21));
        Check.throwsMissing("setKeep(1, 5)", () -> x.setKeep(1, 5));
        Check.throwsMissing("setLess(-1, -1)", () -> x.setLess(-1, -1));
        Check.throwsMissing("setLess(-1, 5)", () -> x.setLess(-1, 5));
    }

    @Says(SEVERAL)
    static void section5_aWrongSlotInWhichNothingIsSaved() {
        BackwardProofs x = new BackwardProofs();
        Check.throwsArgument("restore(2)", () -> x.restore(2));
        Check.throwsArgument("restore(-1)", () -> x.restore(-1));
    }

    @Says("A call that throws changes nothing, unless its description says otherwise.")
    static void section5_callsThatThrowChangeNothing() {
        BackwardProofs x = new BackwardProofs();
        x.setPrice(1, 33);
        x.fill(0, 20);
        x.save(1);
        Check.same("writeNeed(1)", x.writeNeed(1), 6);
        Check.throwsState("setBefore()", () -> Check.setBefore(x, "eq a"));
        Check.feed(x, "true");
        String picture = Check.picture(x);
        throwAll(x);
        Check.sameText("the picture", Check.picture(x), picture);
        Check.same("value(7)", x.value(7), 2);
        Check.same("errorCode()", x.errorCode(), 1);
        Check.same("errorPosition()", x.errorPosition(), 4);
        Check.sameText("the output", Check.output(x, 6), "eq b 2");
        Check.throwsIndex("outputByte(6)", () -> x.outputByte(6));
        Check.throwsState("restore(0)", () -> x.restore(0));
        Check.same("save(1)", x.save(1), 1);
        Check.same("setBefore(): the input", x.setBefore(4), 64);
        Check.same("undo()", x.undo(), 2);
    }

    private static void throwAll(BackwardProofs x) {
        Check.throwsArgument("value(8)", () -> x.value(8));
        Check.throwsMissing("statement(4, 0)", () -> x.statement(4, 0));
        Check.throwsArgument("statement(0, 8)", () -> x.statement(0, 8));
        Check.throwsArgument("loopSet(0, 2)", () -> x.loopSet(0, 2));
        Check.throwsArgument("less(0, 64)", () -> x.less(0, 64));
        Check.throwsMissing("need(4)", () -> x.need(4));
        Check.throwsArgument("duty(0, 4)", () -> x.duty(0, 4));
        Check.throwsMissing("failing(4)", () -> x.failing(4));
        Check.throwsArgument("run(64)", () -> x.run(64));
        Check.throwsArgument("steps(64)", () -> x.steps(64));
        Check.throwsArgument("cost(64)", () -> x.cost(64));
        Check.throwsArgument("costBits(64)", () -> x.costBits(64));
        Check.throwsMissing("met(4)", () -> x.met(4));
        Check.throwsMissing("rounds(1)", () -> x.rounds(1));
        Check.throwsMissing("proves(1)", () -> x.proves(1));
        Check.throwsMissing("rights(1)", () -> x.rights(1));
        Check.throwsMissing("safe(1)", () -> x.safe(1));
        Check.throwsMissing("unsafe(1)", () -> x.unsafe(1));
        Check.throwsMissing("writeNeed(4)", () -> x.writeNeed(4));
        Check.throwsIndex("outputByte(6)", () -> x.outputByte(6));
        Check.throwsMissing("needNodes(4)", () -> x.needNodes(4));
        Check.throwsMissing("gap(4)", () -> x.gap(4));
        Check.throwsArgument("load(21)", () -> x.load(21));
        Check.throwsArgument("setBefore(21)", () -> x.setBefore(21));
        Check.throwsArgument("setAfter(21)", () -> x.setAfter(21));
        Check.throwsMissing("setKeep(1, 4)", () -> x.setKeep(1, 4));
        Check.throwsArgument("setKeep(0, 21)", () -> x.setKeep(0, 21));
        Check.throwsMissing("setLess(1, 4)", () -> x.setLess(1, 4));
        Check.throwsArgument("setLess(0, 21)", () -> x.setLess(0, 21));
        Check.throwsArgument("fill(0, 39)", () -> x.fill(0, 39));
        Check.throwsArgument("setPrice(0, 100)", () -> x.setPrice(0, 100));
        Check.throwsState("restore(0)", () -> x.restore(0));
        Check.throwsArgument("save(2)", () -> x.save(2));
    }

    @Says("A new proof is as if the description \"proof lt a 3 and eq a 0 eq b 2 set b 2 while lt 0 a keep eq b 2 less a set "
            + "a minus a 1 end hole\" had been loaded, with empty buffers.")
    static void section5_aNewProofIsAsIfItsDescriptionHadBeenLoaded() {
        BackwardProofs x = new BackwardProofs();
        BackwardProofs y = new BackwardProofs();
        Check.load(y, "proof true false hole hole");
        Check.load(y, "proof lt a 3 and eq a 0 eq b 2 set b 2 while lt 0 a keep eq b 2 less a set a minus a 1 end hole");
        Check.sameText("the picture", Check.picture(x), Check.picture(y));
        for (int statement = 0; statement < 4; statement++) {
            Check.sameText("writeNeed(" + statement + ")", Check.written(x, statement), Check.written(y, statement));
        }
    }

    @Says("with empty buffers.")
    static void section5_aNewProofHasEmptyBuffers() {
        BackwardProofs x = new BackwardProofs();
        Check.throwsArgument("load(1)", () -> x.load(1));
        Check.throwsIndex("outputByte(0)", () -> x.outputByte(0));
        Check.same("feed()", x.feed(0, 0, 0, 0, 0), 20);
    }

    @Says("`NONE = -1`: There is none.")
    static void section5_noneIsMinus1() {
        Check.same("NONE", BackwardProofs.NONE, -1);
    }
}
