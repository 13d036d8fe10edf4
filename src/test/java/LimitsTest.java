/**
 * The document's "What it is" and "Terms": the 512 calls, the 15 tokens, the kinds and strengths,
 * ints that wrap, and that no call ever throws.
 */
public final class LimitsTest {
    private static final int NONE = MixfixReader.NONE;
    private static long seed = 512;

    public static void main(String[] args) {
        mixedCallsUpToTheLast();
        lastCallOfEachMethod();
        textsAfterOneAnother();
        fifteenTokens();
        strengthsOfEachLevel();
        strengthFive();
        passingOn();
        leftOnEachLevel();
        rightOnEachLevel();
        neitherOnEachLevel();
        beforeOnEachLevel();
        behindOnEachLevel();
        anyOperatorOfTheLevel();
        levelWithoutOperators();
        wrapOfTwice();
        wrapOfSevenTimes();
        wrapOfProduct();
        wrapOfTenTimes();
        valuesAroundZero();
        nothingIsThrown();
        Check.end();
    }

    private static int below(int bound) {
        seed = seed * 6364136223846793005L + 1442695040888963407L;
        return (int) ((seed >>> 33) % bound);
    }

    /** Every operator on level k, which is of this kind; the levels beside it are left. */
    private static MixfixReader onLevel(int k, int kind, String text) {
        MixfixReader r = new MixfixReader();
        r.level(k, kind);
        for (int o = 0; o < 8; o++) {
            r.operator(o, k, o & 3);
        }
        Check.type(r, text);
        return r;
    }

    private static void reads(int k, int kind, String text, int root) {
        MixfixReader r = onLevel(k, kind, text);
        String what = "level " + k + " of kind " + kind + ", " + text + " ";
        Check.same(what + "reads", r.reads(), true);
        Check.same(what + "strength", r.strength(), text.startsWith("((") ? 5 : k);
        Check.same(what + "root", r.root(), root);
    }

    private static void readsNot(int k, int kind, String text) {
        MixfixReader r = onLevel(k, kind, text);
        String what = "level " + k + " of kind " + kind + ", " + text + " ";
        Check.same(what + "reads", r.reads(), false);
        Check.same(what + "strength", r.strength(), NONE);
    }

    /** What a reader should hold, so that a young reader can be brought to the same state. */
    private static final class Model {
        final int[] kindOf = new int[5];
        final int[] levelOf = {0, 0, 1, 1, 2, 2, 3, 4};
        final int[] meaningOf = {0, 1, 2, 3, 0, 1, 2, 3};
        final int[] text = new int[15];
        int size = 0;

        MixfixReader young() {
            MixfixReader r = new MixfixReader();
            for (int k = 0; k < 5; k++) {
                r.level(k, kindOf[k]);
            }
            for (int o = 0; o < 8; o++) {
                r.operator(o, levelOf[o], meaningOf[o]);
            }
            for (int i = 0; i < size; i++) {
                r.token(text[i]);
            }
            return r;
        }
    }

    private static void mixedCallsUpToTheLast() {
        for (int round = 0; round < 60; round++) {
            MixfixReader old = new MixfixReader();
            Model model = new Model();
            for (int call = 1; call <= 512; call++) {
                oneCall("round " + round + ", call " + call + ": ", old, model, below(22));
            }
        }
    }

    private static void oneCall(String what, MixfixReader old, Model model, int choice) {
        if (choice == 0) {
            int k = below(5);
            int kind = below(5);
            Check.same(what + "level", old.level(k, kind), model.kindOf[k]);
            model.kindOf[k] = kind;
        } else if (choice == 1) {
            int o = below(8);
            int k = below(5);
            int meaning = below(4);
            Check.same(what + "operator", old.operator(o, k, meaning), model.levelOf[o]);
            model.levelOf[o] = k;
            model.meaningOf[o] = meaning;
        } else if (choice < 11) {
            tokenCall(what, old, model, fittingToken(model));
        } else if (choice == 11) {
            int due = model.size == 0 ? NONE : model.text[model.size - 1];
            Check.same(what + "untoken", old.untoken(), due);
            model.size -= model.size == 0 ? 0 : 1;
        } else if (choice == 12 && below(4) == 0) {
            old.clear();
            model.size = 0;
        } else {
            question(what, old, model.young(), choice % 9);
        }
    }

    /** Mostly a token that can stand there, so that many of the texts are expressions. */
    private static int fittingToken(Model model) {
        if (below(8) == 0) {
            return below(20);
        }
        boolean number = model.size == 0 || model.text[model.size - 1] >= 10 && model.text[model.size - 1] < 19;
        return number ? below(10) : 10 + below(8);
    }

    private static void tokenCall(String what, MixfixReader old, Model model, int t) {
        boolean full = model.size == 15;
        Check.same(what + "token", old.token(t), full ? MixfixReader.FULL : model.size + 1);
        if (!full) {
            model.text[model.size++] = t;
        }
    }

    private static void question(String what, MixfixReader old, MixfixReader young, int choice) {
        switch (choice) {
            case 0:
                Check.same(what + "size", old.size(), young.size());
                break;
            case 1:
                Check.same(what + "reads", old.reads(), young.reads());
                break;
            case 2:
                Check.same(what + "strength", old.strength(), young.strength());
                break;
            case 3:
                Check.same(what + "value", old.value(), young.value());
                break;
            case 4:
                Check.same(what + "root", old.root(), young.root());
                break;
            case 5:
                int i = below(17) - 1;
                Check.same(what + "depth", old.depth(i), young.depth(i));
                break;
            case 6:
                Check.same(what + "spare", old.spare(), young.spare());
                break;
            default:
                Check.same(what + "endings", old.endings(), young.endings());
                break;
        }
    }

    /** A reader that has had 511 calls; its text is "(1a2)c3". */
    private static MixfixReader almostUsedUp() {
        MixfixReader r = new MixfixReader();
        for (int n = 0; n < 63; n++) {
            r.token(n % 20);
            r.endings();
            r.token(20);
            r.level(n % 5, 5);
            r.operator(n % 8, n % 5, 4);
            r.spare();
            r.untoken();
            r.value();
        }
        Check.type(r, "(1a2)c3");
        return r;
    }

    private static void lastCallOfEachMethod() {
        Check.same("512th call, level", almostUsedUp().level(4, 2), 0);
        Check.same("512th call, operator", almostUsedUp().operator(7, 2, 2), 4);
        Check.same("512th call, token", almostUsedUp().token(10), 8);
        Check.same("512th call, untoken", almostUsedUp().untoken(), 3);
        Check.same("512th call, size", almostUsedUp().size(), 7);
        Check.same("512th call, reads", almostUsedUp().reads(), true);
        Check.same("512th call, strength", almostUsedUp().strength(), 1);
        Check.same("512th call, value", almostUsedUp().value(), 9);
        Check.same("512th call, root", almostUsedUp().root(), 5);
        Check.same("512th call, depth", almostUsedUp().depth(2), 2);
        Check.same("512th call, spare", almostUsedUp().spare(), 0);
        Check.same("512th call, endings", almostUsedUp().endings(), 0);
        almostUsedUp().clear();
    }

    /** What was asked before, of this text or another, must not matter. */
    private static void textsAfterOneAnother() {
        String[] texts = {"1a(2a3)", "(1a2)", "(1a(2a3))", "7", "((1a2)c3)", "(", "(((((((7)))))))", "1a", "(1)a(2)",
            "1a2a3a4a5a6a7a8", "", "1c(2c(3c4))"};
        for (String first : texts) {
            for (String second : texts) {
                for (int choice = 0; choice < 8; choice++) {
                    MixfixReader r = Check.reader("LRLLL", first);
                    Check.answers(r);
                    question(first + " asked again, ", r, Check.reader("LRLLL", first), choice);
                    r.clear();
                    Check.type(r, second);
                    question(second + " after " + first + ", ", r, Check.reader("LRLLL", second), choice);
                    r.depth(second.length() - 2);
                    question(second + " after a depth, ", r, Check.reader("LRLLL", second), choice);
                }
            }
        }
    }

    private static void fifteenTokens() {
        MixfixReader r = Check.reader("R", "1a2a3a4a5a6a7a8");
        Check.same("15 tokens, size", r.size(), 15);
        Check.same("15 tokens, value", r.value(), 36);
        Check.same("15 tokens, root", r.root(), 1);
        Check.same("15 tokens, depth(14)", r.depth(14), 7);
        Check.same("a token more", r.token(1), MixfixReader.FULL);
    }

    private static void strengthsOfEachLevel() {
        for (int k = 0; k < 5; k++) {
            for (int kind = 0; kind < 5; kind++) {
                String text = kind == 3 ? "a1" : kind == 4 ? "1a" : "1a2";
                reads(k, kind, text, kind == 3 ? 0 : 1);
            }
        }
    }

    private static void strengthFive() {
        for (int n = 0; n < 10; n++) {
            Check.same("strength of " + n, Check.reader("", "" + n).strength(), 5);
        }
        for (int k = 0; k < 5; k++) {
            Check.same("strength of (1a2), level " + k, onLevel(k, 0, "(1a2)").strength(), 5);
        }
        Check.same("strength of ()", Check.reader("", "()").strength(), NONE);
    }

    /** The text in brackets has strength 5, and is good as an operand on every level and side. */
    private static void passingOn() {
        for (int k = 0; k < 5; k++) {
            reads(k, 0, "(1a2)a(3a4)", 5);
            reads(k, 1, "(1a2)a(3a4)", 5);
            reads(k, 2, "(1a2)a(3a4)", 5);
            reads(k, 3, "a(a1)", 0);
            reads(k, 4, "(1a)a", 4);
        }
    }

    private static void leftOnEachLevel() {
        for (int k = 0; k < 5; k++) {
            reads(k, 0, "1a2a3", 3);
            reads(k, 0, "1a(2a3)", 1);
            reads(k, 0, "((1a2)a3)", 6);
            readsNot(k, 0, "a1");
            readsNot(k, 0, "1a");
            readsNot(k, 0, "1aa2");
        }
    }

    private static void rightOnEachLevel() {
        for (int k = 0; k < 5; k++) {
            reads(k, 1, "1a2a3", 1);
            reads(k, 1, "(1a2)a3", 5);
            readsNot(k, 1, "a1");
            readsNot(k, 1, "1a");
            readsNot(k, 1, "1aa2");
        }
    }

    private static void neitherOnEachLevel() {
        for (int k = 0; k < 5; k++) {
            reads(k, 2, "1a2", 1);
            readsNot(k, 2, "1a2a3");
            readsNot(k, 2, "1a2b3");
            reads(k, 2, "(1a2)a3", 5);
            reads(k, 2, "1a(2a3)", 1);
            readsNot(k, 2, "a1");
            readsNot(k, 2, "1a");
        }
    }

    private static void beforeOnEachLevel() {
        for (int k = 0; k < 5; k++) {
            reads(k, 3, "aaa1", 0);
            readsNot(k, 3, "a");
            readsNot(k, 3, "1a");
            readsNot(k, 3, "1a2");
            readsNot(k, 3, "a1a");
            readsNot(k, 3, "a1a2");
        }
    }

    private static void behindOnEachLevel() {
        for (int k = 0; k < 5; k++) {
            reads(k, 4, "1aaa", 3);
            readsNot(k, 4, "a");
            readsNot(k, 4, "a1");
            readsNot(k, 4, "1a2");
            readsNot(k, 4, "a1a");
            readsNot(k, 4, "1a2a");
        }
    }

    private static void anyOperatorOfTheLevel() {
        for (int k = 0; k < 5; k++) {
            reads(k, 0, "1a2b3c4d5e6f7g8", 13);
            reads(k, 1, "1a2b3c4d5e6f7h8", 1);
            reads(k, 3, "abcdefgh1", 0);
            reads(k, 4, "1abcdefgh", 8);
        }
    }

    /** Levels that no operator belongs to only pass on. */
    private static void levelWithoutOperators() {
        for (int k = 1; k < 5; k++) {
            MixfixReader r = onLevel(0, 0, "1b2b3");
            r.level(k, 3);
            Check.same("empty level " + k + ", value", r.value(), -4);
            Check.same("empty level " + k + ", strength", r.strength(), 0);
        }
    }

    /** The operators a to d have the meanings 0 to 3, behind one on level 1, e to h on level 0 between two. */
    private static int valueOf(String text) {
        MixfixReader r = Check.reader("L>", text);
        for (int o = 0; o < 8; o++) {
            r.operator(o, o < 4 ? 1 : 0, o & 3);
        }
        Check.same(text + " reads", r.reads(), true);
        return r.value();
    }

    private static void wrapOfTwice() {
        Check.same("7 with ten d", valueOf("7dddddddddd"), 2118564367);
        Check.same("2 a beyond the ints", valueOf("7ddddddddddc"), 2 * 2118564367);
        Check.same("2 a below the ints", valueOf("7ddddddddddac"), -2 * 2118564367);
        Check.same("-a of a wrapped one", valueOf("7ddddddddddca"), -(2 * 2118564367));
        Check.same("a + 1 of a wrapped one", valueOf("7ddddddddddcb"), 2 * 2118564367 + 1);
    }

    private static void wrapOfSevenTimes() {
        Check.same("7 a + 3 beyond the ints", valueOf("7ddddddddddd"), 7 * 2118564367 + 3);
        Check.same("7 a + 3 below the ints", valueOf("7ddddddddddad"), 7 * -2118564367 + 3);
        Check.same("8 with ten d", valueOf("8dddddddddd"), -1893927680);
    }

    private static void wrapOfProduct() {
        Check.same("9 with five d", valueOf("9ddddd"), 159666);
        Check.same("a b beyond the ints", valueOf("9dddddg9ddddd"), 159666 * 159666);
        Check.same("a b below the ints", valueOf("9dddddag9ddddd"), -159666 * 159666);
        Check.same("a b by a digit", valueOf("7ddddddddddg9"), 2118564367 * 9);
    }

    private static void wrapOfTenTimes() {
        Check.same("10 a + b beyond the ints", valueOf("7ddddddddddh9"), 10 * 2118564367 + 9);
        Check.same("10 a + b below the ints", valueOf("7ddddddddddah9"), 10 * -2118564367 + 9);
        Check.same("sum with a wrapped one", valueOf("7ddddddddddce9"), 2 * 2118564367 + 9);
        Check.same("difference with a wrapped one", valueOf("9f7ddddddddddc"), 9 - 2 * 2118564367);
    }

    private static void valuesAroundZero() {
        Check.same("-0", valueOf("0a"), 0);
        Check.same("0 + 1", valueOf("0b"), 1);
        Check.same("2 times 0", valueOf("0c"), 0);
        Check.same("7 times 0 and 3", valueOf("0d"), 3);
        Check.same("-1 + 1", valueOf("1ab"), 0);
        Check.same("0 - 9", valueOf("0f9"), -9);
        Check.same("10 times 0 and 0", valueOf("0h0"), 0);
        Check.same("10 times -9 and 9", valueOf("9ah9"), -81);
    }

    private static void nothingIsThrown() {
        int[] numbers = {Integer.MIN_VALUE, Integer.MIN_VALUE + 1, -65536, -290, -18, -2, -1, 0, 1, 2, 3, 4, 5, 6, 7, 8,
            9, 10, 14, 15, 16, 17, 18, 19, 20, 255, 256, 288, 289, 65536, Integer.MAX_VALUE - 1, Integer.MAX_VALUE};
        String[] texts = {"", "(", ")", "h", "7", "1a2", "(1a2", ")))))))))))))))", "(((((((((((((((", "hhhhhhhhhhhhhhh",
            "777777777777777", "1a1a1a1a1a1a1a1", "(((((((7)))))))", ")1(", "(a)"};
        for (String text : texts) {
            for (int kind = 0; kind < 5; kind++) {
                for (int number : numbers) {
                    Check.same(text + " of kind " + kind + ", calls with " + number + " throw", throwsAt(text, kind, number), false);
                }
            }
        }
    }

    private static boolean throwsAt(String text, int kind, int number) {
        try {
            MixfixReader r = onLevel(2, kind, text);
            r.level(number, number);
            r.level(number, 2);
            r.level(2, number);
            r.operator(number, number, number);
            r.operator(number, 2, 2);
            r.operator(2, number, 2);
            r.operator(2, 2, number);
            r.depth(number);
            Check.answers(r);
            r.token(number);
            r.depth(number);
            Check.answers(r);
            r.untoken();
            r.untoken();
            r.clear();
            r.untoken();
            r.depth(number);
            Check.answers(r);
            return false;
        } catch (Throwable thrown) {
            return true;
        }
    }
}
