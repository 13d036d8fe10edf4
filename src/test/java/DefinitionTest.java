import java.util.ArrayList;
import java.util.List;

/**
 * Compares the answers with the document's definitions, followed word for word by the slow class
 * Definition below, on all short texts and on many long ones that are made from the grammar and
 * then often spoilt by a change.
 */
public final class DefinitionTest {
    private static final int OPEN = 18;
    private static final int CLOSE = 19;
    private static long seed = 20261115;
    private static int expressions = 0;
    private static int sparePairs = 0;
    private static int keptPairs = 0;

    public static void main(String[] args) {
        shortTexts();
        longTexts();
        // The comparison is worth nothing if the texts made are too dull.
        Check.same("enough expressions", expressions > 5000, true);
        Check.same("enough spare pairs", sparePairs > 1000, true);
        Check.same("enough pairs that are not spare", keptPairs > 1000, true);
        Check.end();
    }

    private static int below(int bound) {
        seed = seed * 6364136223846793005L + 1442695040888963407L;
        return (int) ((seed >>> 33) % bound);
    }

    /** All texts of up to 5 tokens out of a number, one operator of each of two levels, and brackets. */
    private static void shortTexts() {
        int[] alphabet = {7, 10, 12, OPEN, CLOSE};
        for (int kinds = 0; kinds < 25; kinds++) {
            int[] kindOf = {kinds % 5, kinds / 5, 0, 0, 0};
            int[] levelOf = {0, 0, 1, 1, 2, 2, 3, 4};
            int[] meaningOf = {0, 1, 2, 3, 0, 1, 2, 3};
            for (int length = 0, many = 1; length <= 5; length++, many *= 5) {
                for (int number = 0; number < many; number++) {
                    int[] text = new int[length];
                    for (int i = 0, rest = number; i < length; i++, rest /= 5) {
                        text[i] = alphabet[rest % 5];
                    }
                    compare(new Definition(kindOf, levelOf, meaningOf, text));
                }
            }
        }
    }

    private static void longTexts() {
        for (int round = 0; round < 12000; round++) {
            int[] kindOf = new int[5];
            int[] levelOf = new int[8];
            int[] meaningOf = new int[8];
            for (int k = 0; k < 5; k++) {
                kindOf[k] = below(5);
            }
            for (int o = 0; o < 8; o++) {
                levelOf[o] = below(5);
                meaningOf[o] = below(4);
            }
            List<Integer> made = new ArrayList<>();
            make(made, 0, 1 + below(15), kindOf, levelOf);
            if (below(3) == 0 && !made.isEmpty()) {
                made.set(below(made.size()), below(20));
            }
            while (made.size() > 15 || (!made.isEmpty() && below(8) == 0)) {
                made.remove(made.size() - 1);
            }
            int[] text = new int[made.size()];
            for (int i = 0; i < text.length; i++) {
                text[i] = made.get(i);
            }
            compare(new Definition(kindOf, levelOf, meaningOf, text));
        }
    }

    /** Appends an expression of strength k of about this many tokens. */
    private static void make(List<Integer> text, int k, int budget, int[] kindOf, int[] levelOf) {
        if (k == 5) {
            if (budget < 3) {
                text.add(below(10));
            } else {
                text.add(OPEN);
                make(text, 0, budget - 2, kindOf, levelOf);
                text.add(CLOSE);
            }
            return;
        }
        int o = below(8);
        for (int tries = 0; tries < 8 && levelOf[o] != k; tries++) {
            o = (o + 1) % 8;
        }
        int kind = kindOf[k];
        if (levelOf[o] != k || budget < (kind < 3 ? 3 : 2) || below(3) == 0) {
            make(text, k + 1, budget, kindOf, levelOf);
        } else if (kind == 3) {
            text.add(10 + o);
            make(text, k, budget - 1, kindOf, levelOf);
        } else if (kind == 4) {
            make(text, k, budget - 1, kindOf, levelOf);
            text.add(10 + o);
        } else {
            int first = 1 + below(budget - 2);
            make(text, kind == 0 ? k : k + 1, first, kindOf, levelOf);
            text.add(10 + o);
            make(text, kind == 1 ? k : k + 1, budget - 1 - first, kindOf, levelOf);
        }
    }

    private static void compare(Definition due) {
        MixfixReader r = new MixfixReader();
        for (int k = 0; k < 5; k++) {
            r.level(k, due.kindOf[k]);
        }
        for (int o = 0; o < 8; o++) {
            r.operator(o, due.levelOf[o], due.meaningOf[o]);
        }
        for (int t : due.text) {
            r.token(t);
        }
        String what = due.told() + " ";
        boolean reads = due.is(0);
        Check.same(what + "has at most one way", due.ways() <= 1, true);
        Check.same(what + "reads", r.reads(), reads);
        Check.same(what + "strength", r.strength(), due.strength());
        Check.same(what + "value", r.value(), reads ? due.value(0, due.text.length) : 0);
        Check.same(what + "root", r.root(), due.root());
        for (int i = -1; i <= due.text.length; i++) {
            Check.same(what + "depth(" + i + ")", r.depth(i), due.depth(i));
        }
        Check.same(what + "spare", r.spare(), due.spare());
        Check.same(what + "endings", r.endings(), due.endings());
        Check.same(what + "size", r.size(), due.text.length);
        if (reads) {
            expressions++;
            sparePairs += due.spare();
            keptPairs += due.pairs().size() - due.spare();
        }
    }

    /** One text under one choice of levels, kinds and meanings. */
    private static final class Definition {
        final int[] kindOf;
        final int[] levelOf;
        final int[] meaningOf;
        final int[] text;
        // How many ways there are to make a span at a strength, passing on not counted; -1 is not known yet.
        private final long[][][] ways;

        Definition(int[] kindOf, int[] levelOf, int[] meaningOf, int[] text) {
            this.kindOf = kindOf;
            this.levelOf = levelOf;
            this.meaningOf = meaningOf;
            this.text = text;
            int n = text.length + 1;
            ways = new long[6][n][n];
            for (long[][] table : ways) {
                for (long[] row : table) {
                    java.util.Arrays.fill(row, -1);
                }
            }
        }

        Definition with(int[] otherText) {
            return new Definition(kindOf, levelOf, meaningOf, otherText);
        }

        long ways() {
            return ways(0, 0, text.length);
        }

        boolean is(int k) {
            return ways(k, 0, text.length) > 0;
        }

        private long ways(int k, int from, int to) {
            if (from >= to) {
                return 0;
            }
            if (ways[k][from][to] < 0) {
                ways[k][from][to] = k == 5 ? waysOfFive(from, to) : waysBelowFive(k, from, to);
            }
            return ways[k][from][to];
        }

        private long waysOfFive(int from, int to) {
            if (to - from == 1) {
                return text[from] < 10 ? 1 : 0;
            }
            return text[from] == OPEN && text[to - 1] == CLOSE ? ways(0, from + 1, to - 1) : 0;
        }

        private long waysBelowFive(int k, int from, int to) {
            long sum = ways(k + 1, from, to);
            for (int p = from; p < to; p++) {
                sum += waysAt(k, from, p, to);
            }
            return sum;
        }

        private long waysAt(int k, int from, int p, int to) {
            if (text[p] < 10 || text[p] > 17 || levelOf[text[p] - 10] != k) {
                return 0;
            }
            switch (kindOf[k]) {
                case 0:
                    return ways(k, from, p) * ways(k + 1, p + 1, to);
                case 1:
                    return ways(k + 1, from, p) * ways(k, p + 1, to);
                case 2:
                    return ways(k + 1, from, p) * ways(k + 1, p + 1, to);
                case 3:
                    return p == from ? ways(k, p + 1, to) : 0;
                default:
                    return p == to - 1 ? ways(k, from, p) : 0;
            }
        }

        int strength() {
            int greatest = MixfixReader.NONE;
            for (int k = 0; k <= 5; k++) {
                if (is(k)) {
                    greatest = k;
                }
            }
            return greatest;
        }

        /** The operator taken last in making this expression, or -1. */
        private int last(int from, int to) {
            for (int k = 0; k < 5; k++) {
                for (int p = from; p < to; p++) {
                    if (waysAt(k, from, p, to) > 0) {
                        return p;
                    }
                }
            }
            return -1;
        }

        int value(int from, int to) {
            int p = last(from, to);
            if (p < 0) {
                return to - from == 1 ? text[from] : value(from + 1, to - 1);
            }
            int o = text[p] - 10;
            int kind = kindOf[levelOf[o]];
            if (kind >= 3) {
                int a = kind == 3 ? value(p + 1, to) : value(from, p);
                return new int[] {-a, a + 1, 2 * a, 7 * a + 3}[meaningOf[o]];
            }
            int a = value(from, p);
            int b = value(p + 1, to);
            return new int[] {a + b, a - b, a * b, 10 * a + b}[meaningOf[o]];
        }

        int root() {
            if (!is(0)) {
                return MixfixReader.NONE;
            }
            int from = 0;
            int to = text.length;
            while (to - from > 1 && waysOfFive(from, to) > 0) {
                from++;
                to--;
            }
            return last(from, to) < 0 ? MixfixReader.NONE : last(from, to);
        }

        /** For each operator the span that it and its operands fill, at its place; others stay null. */
        private int[][] extents() {
            int[][] extents = new int[text.length][];
            fillExtents(extents, 0, text.length);
            return extents;
        }

        private void fillExtents(int[][] extents, int from, int to) {
            int p = last(from, to);
            if (p >= 0) {
                extents[p] = new int[] {from, to};
                if (from < p) {
                    fillExtents(extents, from, p);
                }
                if (p + 1 < to) {
                    fillExtents(extents, p + 1, to);
                }
            } else if (to - from > 1) {
                fillExtents(extents, from + 1, to - 1);
            }
        }

        List<int[]> pairs() {
            List<int[]> pairs = new ArrayList<>();
            List<Integer> open = new ArrayList<>();
            for (int i = 0; i < text.length; i++) {
                if (text[i] == OPEN) {
                    open.add(i);
                } else if (text[i] == CLOSE) {
                    pairs.add(new int[] {open.remove(open.size() - 1), i});
                }
            }
            return pairs;
        }

        int depth(int i) {
            if (i < 0 || i >= text.length || !is(0)) {
                return MixfixReader.NONE;
            }
            int depth = 0;
            int[][] extents = extents();
            for (int p = 0; p < text.length; p++) {
                if (extents[p] != null && p != i && extents[p][0] <= i && i < extents[p][1]) {
                    depth++;
                }
            }
            for (int[] pair : pairs()) {
                if (pair[0] < i && i < pair[1]) {
                    depth++;
                }
            }
            return depth;
        }

        int spare() {
            if (!is(0)) {
                return MixfixReader.NONE;
            }
            int count = 0;
            for (int[] pair : pairs()) {
                if (couldGo(pair[0], pair[1])) {
                    count++;
                }
            }
            return count;
        }

        /** Takes the pair out and looks whether each operator has the same tokens on its two sides. */
        private boolean couldGo(int open, int close) {
            int[] origin = new int[text.length - 2];
            int[] less = new int[text.length - 2];
            int n = 0;
            for (int i = 0; i < text.length; i++) {
                if (i != open && i != close) {
                    origin[n] = i;
                    less[n++] = text[i];
                }
            }
            Definition without = with(less);
            if (!without.is(0)) {
                return false;
            }
            int[][] before = extents();
            int[][] after = without.extents();
            for (int p = 0; p < n; p++) {
                if (after[p] == null) {
                    continue;
                }
                for (int q = 0; q < n; q++) {
                    int[] was = before[origin[p]];
                    boolean inBefore = was[0] <= origin[q] && origin[q] < was[1];
                    boolean inAfter = after[p][0] <= q && q < after[p][1];
                    if (inBefore != inAfter) {
                        return false;
                    }
                }
            }
            return true;
        }

        int endings() {
            int count = 0;
            int[] longer = java.util.Arrays.copyOf(text, text.length + 1);
            for (int t = 0; t < 20; t++) {
                longer[text.length] = t;
                if (with(longer).is(0)) {
                    count++;
                }
            }
            return count;
        }

        String told() {
            StringBuilder told = new StringBuilder("kinds ");
            for (int kind : kindOf) {
                told.append("LRN<>".charAt(kind));
            }
            told.append(" levels ");
            for (int level : levelOf) {
                told.append(level);
            }
            told.append(" meanings ");
            for (int meaning : meaningOf) {
                told.append(meaning);
            }
            told.append(" text ");
            for (int t : text) {
                told.append("0123456789abcdefgh()".charAt(t));
            }
            return told.toString();
        }
    }
}
