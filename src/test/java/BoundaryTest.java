/** The boundary cases that promises 1 to 15 name, each in a method of its own, in the document's order. */
public final class BoundaryTest {
    private static final int BAD_ARG = MixfixReader.BAD_ARG;
    private static final int FULL = MixfixReader.FULL;
    private static final int NONE = MixfixReader.NONE;

    private static final String[] NO_EXPRESSIONS = {"a", "(", ")", "()", "12", "1a", "a1", "1aa2", "(1", "1)", "(1)(2)",
        ")1(", "(1a2))", "((1a2)", "777777777777777", "(((((((((((((((", "1a2a3a4a5a6a7aa", "a2a3a4a5a6a7a8a"};

    public static void main(String[] args) {
        newLevelsAreLeft();
        newOperatorsLevels();
        newMeanings();
        newTextIsEmpty();
        levelRangeOfLevels();
        levelRangeOfKinds();
        levelAnswersTheKindBefore();
        levelHoldsForTheTextThatStands();
        operatorRangeOfOperators();
        operatorRangeOfLevels();
        operatorRangeOfMeanings();
        operatorAnswersTheLevelBefore();
        operatorHoldsForTheTextThatStands();
        tokenRange();
        tokenAnswersTheNumber();
        tokenFullAtFifteen();
        tokenBadBeforeFull();
        untokenOfNone();
        untokenAnswersTheLast();
        untokenMakesRoomAgain();
        clearOfEmptyAndFull();
        clearKeepsTheSettings();
        sizeFromEmptyToFull();
        sizeAfterRefusedCalls();
        emptyTexts();
        readsOneToFifteenTokens();
        readsNoExpression();
        strengthSmallestAndGreatest();
        strengthOfNoExpression();
        valueOfNoExpression();
        valueThatIsZero();
        rootInBrackets();
        rootBesideBrackets();
        rootAtTheEnds();
        rootOfNumbers();
        rootOfNoExpression();
        depthAtTheEnds();
        depthOutsideTheText();
        depthOwnBracketsAndOperator();
        depthGreatest();
        depthOfNoExpression();
        spareNoneToSeven();
        spareAloneAndTogether();
        spareSameOperands();
        spareOfNoExpression();
        endingsAreCountedRight();
        endingsOfFourteenTokens();
        endingsOfFifteenTokens();
        endingsLeaveTheTextAlone();
        Check.end();
    }

    private static MixfixReader of(String kinds, String text) {
        return Check.reader(kinds, text);
    }

    // Promise 1

    private static void newLevelsAreLeft() {
        for (int k = 0; k < 5; k++) {
            Check.same("kind of level " + k + " when new", new MixfixReader().level(k, 1), 0);
        }
        Check.same("value of 9b4b3 when new", of("", "9b4b3").value(), 2);
    }

    private static void newOperatorsLevels() {
        int[] due = {0, 0, 1, 1, 2, 2, 3, 4};
        for (int o = 0; o < 8; o++) {
            Check.same("level of operator " + o + " when new", new MixfixReader().operator(o, 0, 0), due[o]);
        }
    }

    private static void newMeanings() {
        int[] between = {8 + 3, 8 - 3, 8 * 3, 83};
        int[] behind = {-8, 9, 16, 59};
        for (int o = 0; o < 8; o++) {
            char letter = (char) ('a' + o);
            Check.same("8 " + letter + " 3 when new", of("", "8" + letter + "3").value(), between[o & 3]);
            Check.same("8 " + letter + " when new, behind", of(">>>>>", "8" + letter).value(), behind[o & 3]);
            Check.same(letter + " 8 when new, before", of("<<<<<", letter + "8").value(), behind[o & 3]);
        }
    }

    private static void newTextIsEmpty() {
        Check.same("size when new", new MixfixReader().size(), 0);
        Check.same("untoken when new", new MixfixReader().untoken(), NONE);
        Check.same("first token when new", new MixfixReader().token(0), 1);
    }

    // Promise 2

    private static void levelRangeOfLevels() {
        for (int kind = 0; kind < 5; kind++) {
            Check.same("level(-1, " + kind + ")", new MixfixReader().level(-1, kind), BAD_ARG);
            Check.same("level(0, " + kind + ")", new MixfixReader().level(0, kind), 0);
            Check.same("level(4, " + kind + ")", new MixfixReader().level(4, kind), 0);
            Check.same("level(5, " + kind + ")", new MixfixReader().level(5, kind), BAD_ARG);
        }
    }

    private static void levelRangeOfKinds() {
        for (int k = 0; k < 5; k++) {
            Check.same("level(" + k + ", -1)", new MixfixReader().level(k, -1), BAD_ARG);
            Check.same("level(" + k + ", 0)", new MixfixReader().level(k, 0), 0);
            Check.same("level(" + k + ", 4)", new MixfixReader().level(k, 4), 0);
            Check.same("level(" + k + ", 5)", new MixfixReader().level(k, 5), BAD_ARG);
        }
        Check.same("level(-1, -1)", new MixfixReader().level(-1, -1), BAD_ARG);
        Check.same("level(5, 5)", new MixfixReader().level(5, 5), BAD_ARG);
    }

    private static void levelAnswersTheKindBefore() {
        for (int before = 0; before < 5; before++) {
            for (int kind = 0; kind < 5; kind++) {
                MixfixReader r = new MixfixReader();
                r.level(4, before);
                r.level(0, 4 - before);
                Check.same("level(4, " + kind + ") after kind " + before, r.level(4, kind), before);
                Check.same("level(4, 0) after kind " + kind, r.level(4, 0), kind);
                Check.same("level(0, 0) beside it", r.level(0, 0), 4 - before);
            }
        }
    }

    private static void levelHoldsForTheTextThatStands() {
        MixfixReader r = of("", "9b4b3");
        Check.same("left", r.value(), 2);
        r.level(0, 1);
        Check.same("right", r.value(), 8);
        r.level(0, 2);
        Check.same("neither", r.reads(), false);
        r.level(0, 3);
        Check.same("before", r.reads(), false);
        r.level(0, 4);
        Check.same("behind", r.reads(), false);
        r.level(0, 0);
        Check.same("left again", r.value(), 2);
    }

    // Promise 3

    private static void operatorRangeOfOperators() {
        Check.same("operator(-1, 0, 0)", new MixfixReader().operator(-1, 0, 0), BAD_ARG);
        Check.same("operator(0, 0, 0)", new MixfixReader().operator(0, 0, 0), 0);
        Check.same("operator(7, 0, 0)", new MixfixReader().operator(7, 0, 0), 4);
        Check.same("operator(8, 0, 0)", new MixfixReader().operator(8, 0, 0), BAD_ARG);
    }

    private static void operatorRangeOfLevels() {
        for (int o = 0; o < 8; o += 7) {
            Check.same("operator(" + o + ", -1, 0)", new MixfixReader().operator(o, -1, 0), BAD_ARG);
            Check.same("operator(" + o + ", 0, 0)", new MixfixReader().operator(o, 0, 0), o == 0 ? 0 : 4);
            Check.same("operator(" + o + ", 4, 0)", new MixfixReader().operator(o, 4, 0), o == 0 ? 0 : 4);
            Check.same("operator(" + o + ", 5, 0)", new MixfixReader().operator(o, 5, 0), BAD_ARG);
        }
    }

    private static void operatorRangeOfMeanings() {
        for (int o = 0; o < 8; o += 7) {
            Check.same("operator(" + o + ", 0, -1)", new MixfixReader().operator(o, 0, -1), BAD_ARG);
            Check.same("operator(" + o + ", 0, 0)", new MixfixReader().operator(o, 0, 0), o == 0 ? 0 : 4);
            Check.same("operator(" + o + ", 0, 3)", new MixfixReader().operator(o, 0, 3), o == 0 ? 0 : 4);
            Check.same("operator(" + o + ", 0, 4)", new MixfixReader().operator(o, 0, 4), BAD_ARG);
        }
        Check.same("operator(-1, -1, -1)", new MixfixReader().operator(-1, -1, -1), BAD_ARG);
        Check.same("operator(8, 5, 4)", new MixfixReader().operator(8, 5, 4), BAD_ARG);
    }

    private static void operatorAnswersTheLevelBefore() {
        MixfixReader r = new MixfixReader();
        Check.same("operator(7, 4, 0), the level it has", r.operator(7, 4, 0), 4);
        Check.same("operator(7, 0, 3)", r.operator(7, 0, 3), 4);
        Check.same("operator(7, 0, 3) again", r.operator(7, 0, 3), 0);
        Check.same("operator(7, 4, 3)", r.operator(7, 4, 3), 0);
        Check.same("operator(6, 3, 0) beside it", r.operator(6, 3, 0), 3);
        Check.same("operator(0, 0, 0) beside it", r.operator(0, 0, 0), 0);
    }

    private static void operatorHoldsForTheTextThatStands() {
        MixfixReader r = of("", "2a3c4");
        Check.same("2 + 3 * 4", r.value(), 14);
        r.operator(0, 4, 0);
        Check.same("(2 + 3) * 4", r.value(), 20);
        Check.same("its strength", r.strength(), 1);
        r.operator(0, 4, 3);
        Check.same("23 * 4", r.value(), 92);
    }

    // Promise 4

    private static void tokenRange() {
        Check.same("token(-1)", new MixfixReader().token(-1), BAD_ARG);
        Check.same("token(20)", new MixfixReader().token(20), BAD_ARG);
        Check.same("the least int", new MixfixReader().token(Integer.MIN_VALUE), BAD_ARG);
        Check.same("the greatest int", new MixfixReader().token(Integer.MAX_VALUE), BAD_ARG);
        for (int t = 0; t < 20; t++) {
            MixfixReader r = new MixfixReader();
            Check.same("token(" + t + ")", r.token(t), 1);
            Check.same("what token(" + t + ") appended", r.untoken(), t);
        }
    }

    private static void tokenAnswersTheNumber() {
        MixfixReader r = new MixfixReader();
        for (int n = 1; n <= 15; n++) {
            Check.same("token number " + n, r.token(19), n);
        }
    }

    private static void tokenFullAtFifteen() {
        MixfixReader r = of("", "11111111111111");
        Check.same("the 15th token", r.token(2), 15);
        for (int t = 0; t < 20; t++) {
            Check.same("token(" + t + ") as the 16th", r.token(t), FULL);
        }
        Check.same("the 15th token is still the last", r.untoken(), 2);
    }

    private static void tokenBadBeforeFull() {
        MixfixReader r = of("", "111111111111111");
        Check.same("token(-1) as the 16th", r.token(-1), BAD_ARG);
        Check.same("token(20) as the 16th", r.token(20), BAD_ARG);
        Check.same("token(19) as the 16th", r.token(19), FULL);
        Check.same("token(0) as the 16th", r.token(0), FULL);
    }

    // Promise 5

    private static void untokenOfNone() {
        MixfixReader r = new MixfixReader();
        Check.same("untoken of a new object", r.untoken(), NONE);
        Check.same("untoken again", r.untoken(), NONE);
        Check.same("size after it", r.size(), 0);
        Check.same("token after it", r.token(8), 1);
        Check.same("untoken of the only token", r.untoken(), 8);
        Check.same("untoken of no more", r.untoken(), NONE);
    }

    private static void untokenAnswersTheLast() {
        MixfixReader r = of("", "0a9h()(0");
        int[] due = {0, 18, 19, 18, 17, 9, 10, 0, NONE};
        for (int token : due) {
            Check.same("untoken", r.untoken(), token);
        }
    }

    private static void untokenMakesRoomAgain() {
        MixfixReader r = of("", "1a2a3a4a5a6a7a8");
        Check.same("full", r.token(9), FULL);
        Check.same("untoken", r.untoken(), 8);
        Check.same("reads one less", r.reads(), false);
        Check.same("token", r.token(9), 15);
        Check.same("value", r.value(), 37);
        Check.same("full again", r.token(9), FULL);
    }

    // Promises 6 and 7

    private static void clearOfEmptyAndFull() {
        for (String text : new String[] {"", "1", "1a2a3a4a5a6a7a8"}) {
            MixfixReader r = of("", text);
            r.clear();
            Check.same(text + " cleared", Check.everything(r), Check.everything(new MixfixReader()));
        }
        MixfixReader r = of("", "1a2a3a4a5a6a7a8");
        r.clear();
        for (int n = 1; n <= 15; n++) {
            Check.same("token number " + n + " after clear", r.token(1), n);
        }
        Check.same("token number 16 after clear", r.token(1), FULL);
    }

    private static void clearKeepsTheSettings() {
        MixfixReader r = of("LRN<>", "1a2");
        r.operator(3, 4, 1);
        r.clear();
        int[] kinds = {0, 1, 2, 3, 4};
        for (int k = 0; k < 5; k++) {
            Check.same("kind of level " + k + " after clear", r.level(k, 0), kinds[k]);
        }
        Check.type(r, "9d4");
        Check.same("meaning after clear", r.value(), 5);
        Check.same("level after clear", r.operator(3, 0, 0), 4);
    }

    private static void sizeFromEmptyToFull() {
        MixfixReader r = new MixfixReader();
        for (int n = 0; n < 15; n++) {
            Check.same("size", r.size(), n);
            r.token(n);
        }
        Check.same("size when full", r.size(), 15);
        for (int n = 14; n >= 0; n--) {
            r.untoken();
            Check.same("size on the way back", r.size(), n);
        }
    }

    private static void sizeAfterRefusedCalls() {
        MixfixReader r = new MixfixReader();
        r.untoken();
        Check.same("size after untoken of none", r.size(), 0);
        r.token(20);
        Check.same("size after a bad token", r.size(), 0);
        Check.type(r, "777777777777777");
        r.token(7);
        Check.same("size after a token too many", r.size(), 15);
        r.token(-1);
        Check.same("size after a bad token too many", r.size(), 15);
    }

    // Promises 5 to 14 on an empty text

    private static void emptyTexts() {
        MixfixReader cleared = of("", "(1a2)");
        cleared.clear();
        MixfixReader emptied = of("", "7");
        emptied.untoken();
        MixfixReader refused = new MixfixReader();
        refused.token(20);
        emptyText("new", new MixfixReader());
        emptyText("cleared", cleared);
        emptyText("emptied", emptied);
        emptyText("after a refused token", refused);
        Check.same("endings of nothing, before", of("<<<<<", "").endings(), 10);
        Check.same("endings of nothing, behind", of(">>>>>", "").endings(), 10);
    }

    private static void emptyText(String what, MixfixReader r) {
        Check.same(what + ", size", r.size(), 0);
        Check.same(what + ", reads", r.reads(), false);
        Check.same(what + ", strength", r.strength(), NONE);
        Check.same(what + ", value", r.value(), 0);
        Check.same(what + ", root", r.root(), NONE);
        Check.same(what + ", depth(-1)", r.depth(-1), NONE);
        Check.same(what + ", depth(0)", r.depth(0), NONE);
        Check.same(what + ", depth(1)", r.depth(1), NONE);
        Check.same(what + ", spare", r.spare(), NONE);
        Check.same(what + ", endings", r.endings(), 10);
        Check.same(what + ", depth(0) after endings", r.depth(0), NONE);
        Check.same(what + ", untoken", r.untoken(), NONE);
        r.clear();
        Check.same(what + ", size after clear", r.size(), 0);
        Check.same(what + ", reads after clear", r.reads(), false);
    }

    // Promise 8

    private static void readsOneToFifteenTokens() {
        MixfixReader r = new MixfixReader();
        for (int n = 1; n <= 15; n++) {
            r.token(n % 2 == 1 ? 1 : 10);
            Check.same("reads of " + n + " tokens", r.reads(), n % 2 == 1);
        }
        MixfixReader before = of("<", "aaaaaaaaaaaaaa");
        Check.same("reads of 14 operators", before.reads(), false);
        before.token(0);
        Check.same("reads of 14 operators and a number", before.reads(), true);
    }

    private static void readsNoExpression() {
        for (String text : NO_EXPRESSIONS) {
            Check.same("reads of " + text, of("", text).reads(), false);
        }
    }

    // Promise 9

    private static void strengthSmallestAndGreatest() {
        String[] due = {"1a2", "1c2", "1e2", "1g2", "1h2", "1"};
        for (int k = 0; k <= 5; k++) {
            Check.same("strength of " + due[k], of("", due[k]).strength(), k);
            Check.same("strength of (" + due[k] + ")", of("", "(" + due[k] + ")").strength(), 5);
        }
        Check.same("strength of the weakest of many", of("", "1h2g3e4c5").strength(), 1);
        Check.same("strength of 15 tokens", of("", "1h2h3h4h5h6h7h8").strength(), 4);
        Check.same("strength of 15 tokens in brackets", of("", "(1a2a3a4a5a6a7)").strength(), 5);
    }

    private static void strengthOfNoExpression() {
        for (String text : NO_EXPRESSIONS) {
            Check.same("strength of " + text, of("", text).strength(), NONE);
        }
    }

    // Promise 10

    private static void valueOfNoExpression() {
        for (String text : NO_EXPRESSIONS) {
            Check.same("value of " + text, of("", text).value(), 0);
        }
        MixfixReader r = of("", "5");
        Check.same("value of 5", r.value(), 5);
        r.token(10);
        Check.same("value of 5a", r.value(), 0);
        r.token(6);
        Check.same("value of 5a6", r.value(), 11);
        r.token(6);
        Check.same("value of 5a66", r.value(), 0);
    }

    private static void valueThatIsZero() {
        for (String text : new String[] {"0", "(0)", "3b3", "0c9", "0d0"}) {
            Check.same("value of " + text, of("", text).value(), 0);
            Check.same("reads of " + text, of("", text).reads(), true);
        }
    }

    // Promise 11

    private static void rootInBrackets() {
        Check.same("root of 1a2", of("", "1a2").root(), 1);
        Check.same("root of (1a2)", of("", "(1a2)").root(), 2);
        Check.same("root of ((1a2))", of("", "((1a2))").root(), 3);
        Check.same("root of six pairs", of("", "((((((1a2))))))").root(), 7);
        Check.same("root of six pairs around one before", of("<", "((((((a1))))))").root(), 6);
        Check.same("root of six pairs around one behind", of(">", "((((((1a))))))").root(), 7);
        Check.same("root of 15 tokens in brackets, left", of("L", "(1a2a3a4a5a6a7)").root(), 12);
        Check.same("root of 15 tokens in brackets, right", of("R", "(1a2a3a4a5a6a7)").root(), 2);
    }

    /** An open bracket first and a close bracket last are not always a pair. */
    private static void rootBesideBrackets() {
        Check.same("root of (1)a(2)", of("", "(1)a(2)").root(), 3);
        Check.same("root of ((1)a(2))", of("", "((1)a(2))").root(), 4);
        Check.same("root of (1a2)c(3a4)", of("", "(1a2)c(3a4)").root(), 5);
        Check.same("root of (1a2)c3", of("", "(1a2)c3").root(), 5);
        Check.same("root of 1c(2a3)", of("", "1c(2a3)").root(), 1);
        Check.same("root of ((1a2)c(3a4))", of("", "((1a2)c(3a4))").root(), 6);
    }

    private static void rootAtTheEnds() {
        Check.same("root at the first place", of("<", "aaaaaaaaaaaaaa1").root(), 0);
        Check.same("root at the last place", of(">", "1aaaaaaaaaaaaaa").root(), 14);
        Check.same("root of 15 tokens, left", of("L", "1a2a3a4a5a6a7a8").root(), 13);
        Check.same("root of 15 tokens, right", of("R", "1a2a3a4a5a6a7a8").root(), 1);
    }

    private static void rootOfNumbers() {
        Check.same("root of 0", of("", "0").root(), NONE);
        Check.same("root of 9", of("", "9").root(), NONE);
        Check.same("root of (9)", of("", "(9)").root(), NONE);
        Check.same("root of a number in seven pairs", of("", "(((((((9)))))))").root(), NONE);
    }

    private static void rootOfNoExpression() {
        for (String text : NO_EXPRESSIONS) {
            Check.same("root of " + text, of("", text).root(), NONE);
        }
        Check.same("root of (1a)", of("", "(1a)").root(), NONE);
    }

    // Promise 12

    private static void depthAtTheEnds() {
        Check.same("depth of the only token", of("", "7").depth(0), 0);
        Check.same("depth of the first of 15", of("L", "1a2a3a4a5a6a7a8").depth(0), 7);
        Check.same("depth of the last of 15", of("L", "1a2a3a4a5a6a7a8").depth(14), 1);
        Check.same("depth of the first of 15, right", of("R", "1a2a3a4a5a6a7a8").depth(0), 1);
        Check.same("depth of the last of 15, right", of("R", "1a2a3a4a5a6a7a8").depth(14), 7);
    }

    private static void depthOutsideTheText() {
        for (String text : new String[] {"7", "1a2", "(1a2)", "1a2a3a4a5a6a7a8"}) {
            MixfixReader r = of("", text);
            int size = text.length();
            for (int i : new int[] {Integer.MIN_VALUE, -2, -1, size, size + 1, 15, 16, 17, Integer.MAX_VALUE}) {
                Check.same("depth(" + i + ") of " + text, r.depth(i), NONE);
            }
            Check.same("depth(0) of " + text + " is one", r.depth(0) >= 0, true);
            Check.same("the last depth of " + text + " is one", r.depth(size - 1) >= 0, true);
        }
        MixfixReader r = of("", "1a2a3");
        r.untoken();
        r.untoken();
        Check.same("depth(2) of what is left", r.depth(2), 1);
        Check.same("depth(3) of what was there", r.depth(3), NONE);
        r.endings();
        Check.same("depth(3) after endings", r.depth(3), NONE);
    }

    private static void depthOwnBracketsAndOperator() {
        MixfixReader r = of("", "(1)");
        Check.same("depth of the open bracket", r.depth(0), 0);
        Check.same("depth in the brackets", r.depth(1), 1);
        Check.same("depth of the close bracket", r.depth(2), 0);
        Check.same("depth of the operator", of("", "1a2").depth(1), 0);
        Check.same("depth of the operator before", of("<", "a1").depth(0), 0);
        Check.same("depth of the operator behind", of(">", "1a").depth(1), 0);
        MixfixReader operand = of("", "3c(1)");
        Check.same("depth of a bracket in an operand", operand.depth(2), 1);
        Check.same("depth of a number in it", operand.depth(3), 2);
        Check.same("depth of its close bracket", operand.depth(4), 1);
    }

    private static void depthGreatest() {
        for (int i = 0; i < 15; i++) {
            Check.same("depth(" + i + ") behind 14", of("<", "aaaaaaaaaaaaaa1").depth(i), i);
            Check.same("depth(" + i + ") before 14", of(">", "1aaaaaaaaaaaaaa").depth(i), 14 - i);
            Check.same("depth(" + i + ") in seven pairs", of("", "(((((((7)))))))").depth(i), i < 8 ? i : 14 - i);
        }
    }

    private static void depthOfNoExpression() {
        for (String text : NO_EXPRESSIONS) {
            for (int i = -1; i <= text.length(); i++) {
                Check.same("depth(" + i + ") of " + text, of("", text).depth(i), NONE);
            }
        }
    }

    // Promise 13

    private static void spareNoneToSeven() {
        Check.same("spare without brackets", of("", "7").spare(), 0);
        Check.same("spare of 15 tokens without brackets", of("", "1a2a3a4a5a6a7a8").spare(), 0);
        Check.same("spare of a number between operators", of("<>", "a7c").spare(), 0);
        Check.same("spare around the whole text", of("", "(1a2)").spare(), 1);
        Check.same("spare of seven pairs", of("", "(((((((7)))))))").spare(), 7);
        Check.same("spare of four pairs side by side", of("", "(1)a(2)a(3)a(4)").spare(), 4);
        Check.same("one spare of three in 15 tokens", of("R", "((1a2)a(3a4))a5").spare(), 1);
    }

    /** Each pair is taken out alone, the others staying. */
    private static void spareAloneAndTogether() {
        Check.same("spare of ((1a2))c3", of("", "((1a2))c3").spare(), 2);
        Check.same("spare of (1a2)c3", of("", "(1a2)c3").spare(), 0);
        Check.same("spare of (((1a2)))c3", of("", "(((1a2)))c3").spare(), 3);
        Check.same("spare of ((1a2)c3)", of("", "((1a2)c3)").spare(), 1);
    }

    private static void spareSameOperands() {
        Check.same("still an expression, other operands", of("L", "1a(2a3)").spare(), 0);
        Check.same("still an expression, same operands", of("L", "(1a2)a3").spare(), 1);
        Check.same("still an expression, other operands, right", of("R", "(1a2)a3").spare(), 0);
        Check.same("still an expression, same operands, right", of("R", "1a(2a3)").spare(), 1);
        Check.same("no expression any more", of("N", "(1a2)a3").spare(), 0);
        Check.same("no expression any more, before", of("<L", "1c(a2)").spare(), 0);
        Check.same("other operands, before", of("<L", "(a1)c2").spare(), 0);
        Check.same("other operands, behind", of("L>", "(1a2)c").spare(), 0);
    }

    private static void spareOfNoExpression() {
        for (String text : NO_EXPRESSIONS) {
            Check.same("spare of " + text, of("", text).spare(), NONE);
        }
        Check.same("spare of (1)a", of("", "(1)a").spare(), NONE);
    }

    // Promises 14 and 15

    /** Up to 14 tokens, appending each token tells what is due. */
    private static void endingsAreCountedRight() {
        String[] texts = {"", "1", "a", "(", ")", "1a", "(1", "(1a2", "((1", "1a2", "a1", "(1)", "a(1", "1a(2c",
            "(((((((7))))))", "1a2a3a4a5a6a7a", "aaaaaaaaaaaaaa", "1aaaaaaaaaaaaa", "(1a2a3a4a5a6a7"};
        for (String kinds : new String[] {"LLLLL", "RRRRR", "NNNNN", "<<<<<", ">>>>>", "L<>RN", ">L<LN", "<L>LL"}) {
            for (String text : texts) {
                MixfixReader r = of(kinds, text);
                int due = 0;
                for (int t = 0; t < 20; t++) {
                    r.token(t);
                    due += r.reads() ? 1 : 0;
                    r.untoken();
                }
                Check.same(kinds + " endings of " + text, r.endings(), due);
            }
        }
    }

    private static void endingsOfFourteenTokens() {
        Check.same("a number is missing", of("", "1a2a3a4a5a6a7a").endings(), 10);
        Check.same("a bracket is missing", of("", "(((((((7))))))").endings(), 1);
        Check.same("an operator behind fits", of(">>>>>", "1hhhhhhhhhhhhh").endings(), 8);
        Check.same("nothing fits", of("", "77777777777777").endings(), 0);
    }

    private static void endingsOfFifteenTokens() {
        Check.same("a number is missing", of("<", "aaaaaaaaaaaaaaa").endings(), 10);
        Check.same("a number is missing behind a chain", of("L<", "c1a2a3a4a5a6a7a").endings(), 10);
        Check.same("a bracket is missing", of("L<", "(c1a2a3a4a5a6a7").endings(), 1);
        Check.same("two brackets are missing", of("", "((((((((7))))))").endings(), 0);
        Check.same("the last of seven brackets is missing", of("<", "(((((((a7))))))").endings(), 1);
        Check.same("operators behind fit", of(">>>>>", "1hhhhhhhhhhhhhh").endings(), 8);
        Check.same("the weak operators behind fit", of(">>>>>", "1haaaaaaaaaaaaa").endings(), 2);
        Check.same("an operator behind in a chain", of("LLLL>", "1a2a3a4a5a6a7a8").endings(), 1);
        Check.same("nothing fits", of("", "1a2a3a4a5a6a7a8").endings(), 0);
        Check.same("nothing makes it right", of("", "777777777777777").endings(), 0);
    }

    private static void endingsLeaveTheTextAlone() {
        for (String text : new String[] {"", "1", "1a", "1a2a3a4a5a6a7a", "1a2a3a4a5a6a7a8", "1aaaaaaaaaaaaaa"}) {
            MixfixReader r = of("><RLN", text);
            r.endings();
            r.endings();
            Check.same("after endings of " + text, Check.everything(r), Check.everything(of("><RLN", text)));
        }
        MixfixReader full = of(">", "1aaaaaaaaaaaaaa");
        Check.same("endings when full", full.endings(), 2);
        Check.same("token after endings when full", full.token(10), FULL);
        Check.same("size after endings when full", full.size(), 15);
        Check.same("depth(15) after endings when full", full.depth(15), NONE);
        Check.same("root after endings when full", full.root(), 14);
    }
}
