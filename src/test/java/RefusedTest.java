import java.util.function.ToIntFunction;

/**
 * A refused call answers the code named and changes nothing: each one is made on a reader that has
 * a twin, and afterwards the two must tell the same in everything that can be asked.
 */
public final class RefusedTest {
    private static final int BAD_ARG = MixfixReader.BAD_ARG;
    private static final int FULL = MixfixReader.FULL;
    private static final int NONE = MixfixReader.NONE;

    // Not one of them is a level, kind, operator, meaning or token; the lowest bits of most are.
    private static final int[] FAR = {Integer.MIN_VALUE, Integer.MIN_VALUE + 1, -65536, -256, -16, -1,
        20, 32, 256, 258, 65536, 65537, 1 << 30, Integer.MAX_VALUE};

    private static final String[] KINDS = {"LLLLL", "R>N<L", "><RLN"};
    private static final String[] TEXTS = {"", "7", "a", "(", ")", "1a2", "(1a2)c3", "((4))", "1a2c", "(1",
        "1a2a3a4a5a6a7a8", "(((((((7)))))))", "777777777777777", "(((((((((((((((", "1aaaaaaaaaaaaaa"};
    private static final int SHORTEST_FULL = 10;

    public static void main(String[] args) {
        levelOfNoLevel();
        levelOfNoKind();
        operatorOfNoOperator();
        operatorOfNoLevel();
        operatorOfNoMeaning();
        tokenOfNoToken();
        tokenWhenFull();
        untokenOfNothing();
        questionsOfNoExpression();
        depthOfNoToken();
        rootOfANumber();
        Check.end();
    }

    private static MixfixReader made(String kinds, String text) {
        MixfixReader r = Check.reader(kinds, text);
        // Away from the state of a new object, so that a reset would be seen too.
        r.operator(1, 3, 2);
        r.operator(7, 0, 1);
        return r;
    }

    private static void refused(String call, ToIntFunction<MixfixReader> made, int code, String kinds, String text) {
        MixfixReader one = made(kinds, text);
        MixfixReader twin = made(kinds, text);
        String what = kinds + " " + text + " " + call;
        Check.same(what, made.applyAsInt(one), code);
        Check.same(what + ", made again", made.applyAsInt(one), code);
        Check.same("after " + what, Check.everything(one), Check.everything(twin));
    }

    private static void refusedEverywhere(String call, ToIntFunction<MixfixReader> made, int code) {
        for (String kinds : KINDS) {
            for (String text : TEXTS) {
                refused(call, made, code, kinds, text);
            }
        }
    }

    private static void badLevel(int k, int kind) {
        refusedEverywhere("level(" + k + ", " + kind + ")", r -> r.level(k, kind), BAD_ARG);
    }

    private static void badOperator(int o, int k, int meaning) {
        refusedEverywhere("operator(" + o + ", " + k + ", " + meaning + ")", r -> r.operator(o, k, meaning), BAD_ARG);
    }

    private static void levelOfNoLevel() {
        badLevel(-1, 1);
        badLevel(5, 1);
        for (int far : FAR) {
            badLevel(far, 0);
            badLevel(far, 4);
            badLevel(far, far);
        }
    }

    private static void levelOfNoKind() {
        for (int k = 0; k < 5; k++) {
            badLevel(k, -1);
            badLevel(k, 5);
        }
        for (int far : FAR) {
            badLevel(0, far);
            badLevel(4, far);
        }
    }

    private static void operatorOfNoOperator() {
        badOperator(-1, 0, 0);
        badOperator(8, 4, 3);
        // The tokens of operators are no operators.
        badOperator(10, 0, 0);
        badOperator(17, 4, 3);
        for (int far : FAR) {
            badOperator(far, 2, 1);
            badOperator(far, far, far);
        }
    }

    private static void operatorOfNoLevel() {
        for (int o = 0; o < 8; o++) {
            badOperator(o, -1, 0);
            badOperator(o, 5, 3);
            badOperator(o, 7, 3);
        }
        for (int far : FAR) {
            badOperator(0, far, 1);
            badOperator(7, far, 2);
        }
    }

    private static void operatorOfNoMeaning() {
        for (int o = 0; o < 8; o++) {
            badOperator(o, 0, -1);
            badOperator(o, 4, 4);
            badOperator(o, 2, 7);
        }
        for (int far : FAR) {
            badOperator(0, 1, far);
            badOperator(7, 2, far);
        }
    }

    private static void tokenOfNoToken() {
        // Among the texts are full ones: there BAD_ARG goes before FULL.
        for (int far : FAR) {
            refusedEverywhere("token(" + far + ")", r -> r.token(far), BAD_ARG);
        }
    }

    private static void tokenWhenFull() {
        for (int n = SHORTEST_FULL; n < TEXTS.length; n++) {
            for (int t = 0; t < 20; t++) {
                int token = t;
                refused("token(" + t + ")", r -> r.token(token), FULL, KINDS[n % 3], TEXTS[n]);
            }
        }
    }

    private static void untokenOfNothing() {
        for (String kinds : KINDS) {
            refused("untoken()", MixfixReader::untoken, NONE, kinds, "");
        }
    }

    private static void questionsOfNoExpression() {
        for (String text : new String[] {"", "a", "(", ")", "()", "1a", "a1", "(1a2", "777777777777777", "((((((((((((((("}) {
            refused("strength()", MixfixReader::strength, NONE, "LLLLL", text);
            refused("root()", MixfixReader::root, NONE, "LLLLL", text);
            refused("depth(0)", r -> r.depth(0), NONE, "LLLLL", text);
            refused("spare()", MixfixReader::spare, NONE, "LLLLL", text);
            refused("value()", MixfixReader::value, 0, "LLLLL", text);
            refused("reads()", r -> r.reads() ? 1 : 0, 0, "LLLLL", text);
        }
    }

    private static void depthOfNoToken() {
        for (int far : FAR) {
            refusedEverywhere("depth(" + far + ")", r -> r.depth(far), NONE);
        }
        refusedEverywhere("depth(15)", r -> r.depth(15), NONE);
    }

    private static void rootOfANumber() {
        refused("root()", MixfixReader::root, NONE, "LLLLL", "7");
        refused("root()", MixfixReader::root, NONE, "LLLLL", "(((((((7)))))))");
    }
}
