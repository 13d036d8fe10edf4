/** Promises 1 to 3: a new object, level, operator. */
public final class SettingsTest {
    private static final int[] LEVEL_OF = {0, 0, 1, 1, 2, 2, 3, 4};
    private static final int[] WRONG = {Integer.MIN_VALUE, -1, 8, 9, Integer.MAX_VALUE};

    public static void main(String[] args) {
        newObject();
        newMeanings();
        levels();
        operators();
        wrongLevels();
        wrongOperators();
        settingsOutliveTheText();
        objectsAreApart();
        Check.end();
    }

    private static void newObject() {
        MixfixReader r = new MixfixReader();
        Check.same("size of a new object", r.size(), 0);
        Check.same("reads of a new object", r.reads(), false);
        for (int k = 0; k < 5; k++) {
            Check.same("new kind of level " + k, r.level(k, 0), 0);
        }
        for (int o = 0; o < 8; o++) {
            Check.same("new level of operator " + o, r.operator(o, 0, 0), LEVEL_OF[o]);
        }
    }

    private static void newMeanings() {
        int[] due = {9 + 4, 9 - 4, 9 * 4, 94};
        for (int o = 0; o < 8; o++) {
            MixfixReader r = Check.reader("LLLLL", "9" + (char) ('a' + o) + "4");
            Check.same("new value with operator " + o, r.value(), due[o & 3]);
            Check.same("new strength with operator " + o, r.strength(), LEVEL_OF[o]);
        }
    }

    private static void levels() {
        for (int k = 0; k < 5; k++) {
            MixfixReader r = new MixfixReader();
            int before = 0;
            for (int kind : new int[] {4, 3, 3, 2, 1, 0, 4}) {
                Check.same("level(" + k + ", " + kind + ")", r.level(k, kind), before);
                before = kind;
            }
            for (int other = 0; other < 5; other++) {
                Check.same("kind of level " + other, r.level(other, 0), other == k ? 4 : 0);
            }
        }
    }

    private static void operators() {
        for (int o = 0; o < 8; o++) {
            MixfixReader r = Check.reader("LLLLL", "9" + (char) ('a' + o) + "4");
            int before = LEVEL_OF[o];
            int[] due = {9 + 4, 9 - 4, 9 * 4, 94};
            for (int k = 4; k >= 0; k--) {
                for (int meaning = 0; meaning < 4; meaning++) {
                    Check.same("operator(" + o + ", " + k + ", " + meaning + ")", r.operator(o, k, meaning), before);
                    Check.same("value after operator(" + o + ", " + k + ", " + meaning + ")", r.value(), due[meaning]);
                    Check.same("strength after operator(" + o + ", " + k + ", " + meaning + ")", r.strength(), k);
                    before = k;
                }
            }
            for (int other = 0; other < 8; other++) {
                int kept = other == o ? 0 : LEVEL_OF[other];
                Check.same("level of operator " + other, r.operator(other, 1, 0), kept);
            }
        }
    }

    private static void wrongLevels() {
        MixfixReader r = Check.reader("LR<>N", "");
        for (int w : new int[] {Integer.MIN_VALUE, -1, 5, 6, Integer.MAX_VALUE}) {
            Check.same("level(" + w + ", 0)", r.level(w, 0), MixfixReader.BAD_ARG);
            Check.same("level(" + w + ", " + w + ")", r.level(w, w), MixfixReader.BAD_ARG);
            for (int k = 0; k < 5; k++) {
                Check.same("level(" + k + ", " + w + ")", r.level(k, w), MixfixReader.BAD_ARG);
            }
        }
        int[] kept = {0, 1, 3, 4, 2};
        for (int k = 0; k < 5; k++) {
            Check.same("kind kept by level " + k, r.level(k, 0), kept[k]);
        }
    }

    private static void wrongOperators() {
        MixfixReader r = new MixfixReader();
        for (int w : WRONG) {
            Check.same("operator(" + w + ", 0, 0)", r.operator(w, 0, 0), MixfixReader.BAD_ARG);
            Check.same("operator(" + w + ", " + w + ", " + w + ")", r.operator(w, w, w), MixfixReader.BAD_ARG);
        }
        for (int o = 0; o < 8; o++) {
            for (int w : WRONG) {
                Check.same("operator(" + o + ", " + w + ", 0)", r.operator(o, w, 0), MixfixReader.BAD_ARG);
                Check.same("operator(" + o + ", 0, " + w + ")", r.operator(o, 0, w), MixfixReader.BAD_ARG);
            }
            Check.same("operator(" + o + ", 5, 3)", r.operator(o, 5, 3), MixfixReader.BAD_ARG);
            Check.same("operator(" + o + ", 4, 4)", r.operator(o, 4, 4), MixfixReader.BAD_ARG);
        }
        Check.type(r, "9d4");
        Check.same("value after refused calls", r.value(), 94);
        Check.same("strength after refused calls", r.strength(), 1);
    }

    private static void settingsOutliveTheText() {
        MixfixReader r = Check.reader("R", "9b4b3");
        Check.same("value of 9-(4-3)", r.value(), 8);
        r.clear();
        Check.type(r, "9b4b2");
        Check.same("value of 9-(4-2)", r.value(), 7);
        Check.same("level(0, 0)", r.level(0, 0), 1);
        Check.same("value of (9-4)-2", r.value(), 3);
    }

    private static void objectsAreApart() {
        MixfixReader one = Check.reader("R", "9b4b3");
        MixfixReader other = Check.reader("L", "9b4b3");
        Check.same("value in the one", one.value(), 8);
        Check.same("value in the other", other.value(), 2);
    }
}
