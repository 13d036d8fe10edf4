/** Promises 4 to 7: token, untoken, clear, size. */
public final class TextTest {
    public static void main(String[] args) {
        everyTokenGoesInAndOut();
        wrongTokens();
        fullText();
        clearing();
        Check.end();
    }

    private static void everyTokenGoesInAndOut() {
        MixfixReader r = new MixfixReader();
        Check.same("untoken of nothing", r.untoken(), MixfixReader.NONE);
        Check.same("size after it", r.size(), 0);
        for (int first = 0; first < 20; first += 10) {
            for (int t = first; t < first + 10; t++) {
                Check.same("token(" + t + ")", r.token(t), t - first + 1);
                Check.same("size after token(" + t + ")", r.size(), t - first + 1);
            }
            for (int t = first + 9; t >= first; t--) {
                Check.same("untoken", r.untoken(), t);
                Check.same("size after untoken", r.size(), t - first);
            }
            Check.same("untoken of no more", r.untoken(), MixfixReader.NONE);
        }
    }

    private static void wrongTokens() {
        MixfixReader r = Check.reader("", "7");
        for (int t : new int[] {Integer.MIN_VALUE, -1, 20, 21, Integer.MAX_VALUE}) {
            Check.same("token(" + t + ")", r.token(t), MixfixReader.BAD_ARG);
        }
        Check.same("size after them", r.size(), 1);
        Check.same("value after them", r.value(), 7);
    }

    private static void fullText() {
        MixfixReader r = new MixfixReader();
        for (int n = 1; n <= 15; n++) {
            Check.same("token " + n, r.token(n % 2 == 1 ? 1 : 10), n);
        }
        Check.same("the token too many", r.token(10), MixfixReader.FULL);
        Check.same("the wrong token too many", r.token(20), MixfixReader.BAD_ARG);
        Check.same("the negative token too many", r.token(-1), MixfixReader.BAD_ARG);
        Check.same("size when full", r.size(), 15);
        Check.same("value when full", r.value(), 8);
        Check.same("untoken when full", r.untoken(), 1);
        Check.same("token after it", r.token(9), 15);
        Check.same("value after it", r.value(), 16);
    }

    private static void clearing() {
        MixfixReader r = Check.reader("", "1a2");
        r.clear();
        Check.same("size when cleared", r.size(), 0);
        Check.same("reads when cleared", r.reads(), false);
        Check.same("untoken when cleared", r.untoken(), MixfixReader.NONE);
        r.clear();
        Check.same("token when cleared twice", r.token(5), 1);
        Check.same("value when cleared twice", r.value(), 5);
    }
}
