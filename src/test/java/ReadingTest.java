/** Promises 8 to 12: reads, strength, value, root, depth. */
public final class ReadingTest {
    private static final int NONE = MixfixReader.NONE;

    public static void main(String[] args) {
        plainTexts();
        sides();
        ladders();
        meanings();
        wrapping();
        noExpressions();
        depthsOutOfTheText();
        questionsChangeNothing();
        Check.end();
    }

    /** The depths are one digit a token. */
    private static void expect(String kinds, String text, int strength, int value, int root, String depths) {
        MixfixReader r = Check.reader(kinds, text);
        String what = kinds + " " + text + " ";
        Check.same(what + "size", r.size(), depths.length());
        Check.same(what + "reads", r.reads(), true);
        Check.same(what + "strength", r.strength(), strength);
        Check.same(what + "value", r.value(), value);
        Check.same(what + "root", r.root(), root);
        for (int i = 0; i < depths.length(); i++) {
            Check.same(what + "depth(" + i + ")", r.depth(i), depths.charAt(i) - '0');
        }
    }

    private static void expectNone(String kinds, String text) {
        MixfixReader r = Check.reader(kinds, text);
        String what = kinds + " " + text + " ";
        Check.same(what + "reads", r.reads(), false);
        Check.same(what + "strength", r.strength(), NONE);
        Check.same(what + "value", r.value(), 0);
        Check.same(what + "root", r.root(), NONE);
        for (int i = -1; i <= r.size(); i++) {
            Check.same(what + "depth(" + i + ")", r.depth(i), NONE);
        }
    }

    private static void plainTexts() {
        for (int n = 0; n < 10; n++) {
            expect("LLLLL", "" + n, 5, n, NONE, "0");
        }
        expect("LLLLL", "(7)", 5, 7, NONE, "010");
        expect("LLLLL", "(((((((7)))))))", 5, 7, NONE, "012345676543210");
        expect("LLLLL", "3a4", 0, 7, 1, "101");
        expect("LLLLL", "(3a4)", 5, 7, 2, "02120");
        expect("LLLLL", "((3a4))", 5, 7, 3, "0132310");
        expect("LLLLL", "(3)a(4)", 0, 7, 3, "1210121");
        expect("LLLLL", "((3)a(4))", 5, 7, 4, "023212320");
        expect("LLLLL", "3a4c5", 0, 23, 1, "10212");
        expect("LLLLL", "(3a4)c5", 1, 35, 5, "1323101");
    }

    private static void sides() {
        expect("L", "9b4b3b1", 0, 1, 5, "3231201");
        expect("R", "9b4b3b1", 0, 7, 1, "1021323");
        expectNone("N", "9b4b3b1");
        expectNone("N", "9b4b3");
        expect("N", "9b4", 0, 5, 1, "101");
        expect("N", "(9b4)b3", 0, 2, 5, "1323101");
        expect("N", "9b(4b3)", 0, 8, 1, "1013231");
        expect("L", "9b4a3", 0, 8, 3, "21201");
        expect("R", "9b4a3", 0, 2, 1, "10212");
        expect("<", "ab3", 0, -4, 0, "012");
        expect(">", "3ab", 0, -2, 2, "210");
        expectNone("<", "3a");
        expectNone(">", "a3");
        expectNone("<", "3a4");
        expectNone(">", "3a4");
        expectNone("L", "a3");
        expectNone("R", "3a");
    }

    private static void ladders() {
        // A weak operator before takes all that follows, a strong one only what is next to it.
        expect("<L", "b3c4", 0, 13, 0, "0212");
        expect("L<", "c3b4", 0, 2, 2, "1201");
        expect("L<", "3bc4", 0, 3 - 8, 1, "1012");
        expectNone("<L", "3cb4");
        expect("<L", "3c(b4)", 1, 15, 1, "101231");
        expect("<>", "a3c", 0, -6, 0, "021");
        expect("><", "c3a", 0, -6, 2, "120");
        expect(">L", "3c4b", 0, 13, 3, "2120");
        expectNone(">L", "3bc4");
        expect("L>", "3a4c", 0, 11, 1, "1021");
        expect("L>", "3ca4", 0, 10, 2, "2101");
        expect("LLLLL", "1a2c3e4g5h6", 0, 1 + 2 * (3 + 4 * 56), 1, "10213243545");
        expect("LLLLL", "6h5g4e3c2a1", 0, 2 * (65 * 4 + 3) + 1, 9, "54534231201");
    }

    private static void meanings() {
        int[] between = {7 + 2, 7 - 2, 7 * 2, 72};
        int[] single = {-7, 8, 14, 52};
        for (int kind = 0; kind < 5; kind++) {
            for (int meaning = 0; meaning < 4; meaning++) {
                MixfixReader r = new MixfixReader();
                r.level(2, kind);
                r.operator(0, 2, meaning);
                Check.type(r, kind == 3 ? "a7" : kind == 4 ? "7a" : "7a2");
                Check.same("kind " + kind + ", meaning " + meaning, r.value(), kind < 3 ? between[meaning] : single[meaning]);
            }
        }
    }

    private static void wrapping() {
        MixfixReader r = new MixfixReader();
        r.level(0, 4);
        r.operator(0, 0, 3);
        r.token(9);
        int due = 9;
        for (int n = 0; n < 14; n++) {
            r.token(10);
            due = 7 * due + 3;
            Check.same("7 a + 3 again and again, value", r.value(), due);
        }
        Check.same("depth of the number", r.depth(0), 14);
        Check.same("depth of the last operator", r.depth(14), 0);
    }

    private static void noExpressions() {
        String[] texts = {"", "a", "(", ")", "()", "12", "(1", "1)", ")1(", "1a", "a1", "1aa2", "1a(2", "(1)(2)",
            "1(2)", "(1)2", "(1a2))", "((1a2)", "1a)2(", "(a)", "1a()", "(1a)2", "1(a2)", "777777777777777",
            "(((((((((((((((", "1a2c"};
        for (String text : texts) {
            expectNone("LLLLL", text);
        }
    }

    private static void depthsOutOfTheText() {
        MixfixReader r = Check.reader("", "1a2");
        for (int i : new int[] {Integer.MIN_VALUE, -1, 3, 4, 15, 16, 17, 289, Integer.MAX_VALUE}) {
            Check.same("depth(" + i + ")", r.depth(i), NONE);
        }
        r.untoken();
        r.untoken();
        Check.same("depth(1) of a text that was longer", r.depth(1), NONE);
        Check.same("depth(0) of a text that was longer", r.depth(0), 0);
    }

    private static void questionsChangeNothing() {
        MixfixReader r = Check.reader("LLLLL", "(1a2)c3");
        for (int round = 0; round < 3; round++) {
            Check.same("reads again", r.reads(), true);
            Check.same("endings again", r.endings(), 0);
            Check.same("strength again", r.strength(), 1);
            Check.same("value again", r.value(), 9);
            Check.same("spare again", r.spare(), 0);
            Check.same("root again", r.root(), 5);
            Check.same("depth again", r.depth(2), 2);
            Check.same("size again", r.size(), 7);
        }
        Check.same("untoken after questions", r.untoken(), 3);
    }
}
