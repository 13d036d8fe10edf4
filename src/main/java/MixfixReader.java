/**
 * Expressions with operators whose strength and side are chosen: which texts are expressions,
 * what they are made of, their values, which brackets could go.
 */
public final class MixfixReader {
    public static final int BAD_ARG = -1;
    public static final int FULL = -2;
    public static final int NONE = -4;

    private static final int LEVELS = 5;
    private static final int KINDS = 5;
    private static final int OPERATORS = 8;
    private static final int MEANINGS = 4;
    private static final int TOKENS = 20;
    private static final int CAPACITY = 15;

    private static final int LEFT = 0;
    private static final int RIGHT = 1;
    private static final int NEITHER = 2;
    private static final int BEFORE = 3;
    private static final int BEHIND = 4;

    private static final int FIRST_OPERATOR = 10;
    private static final int OPEN = 18;
    private static final int CLOSE = 19;

    // endings() reads texts that are one token longer than the longest text.
    private static final int LONGEST = 16;
    // A span goes from a place up to, not including, another: the end may be LONGEST itself.
    private static final int PLACES = 17;
    private static final int SPANS = 289;

    private static final int STRONGEST = 5;
    // Below every strength, so that it fails each "at least as strong as" test.
    private static final int NO_EXPRESSION = -1;
    private static final int NO_OPERATOR = -1;

    private final int[] kindOf = new int[LEVELS];
    private final int[] levelOf = new int[OPERATORS];
    private final int[] meaningOf = new int[OPERATORS];
    private final int[] text = new int[LONGEST];
    private int length = 0;

    // What is known of each span, filled anew by readText: the span from a up to b stands at
    // a * PLACES + b, so the whole text stands at its length. The greatest strength is enough,
    // since an expression of strength k + 1 is one of strength k too.
    private final int[] strengthOf = new int[SPANS];
    private final int[] operatorOf = new int[SPANS];
    private final int[] valueOf = new int[SPANS];

    // Where the walk from the whole text down to one token stands.
    private int walkFrom = 0;
    private int walkTo = 0;
    private int walkNeed = 0;

    public MixfixReader() {
        for (int o = 0; o < OPERATORS; o++) {
            levelOf[o] = o < 6 ? o / 2 : o - 3;
            meaningOf[o] = o & 3;
        }
    }

    public int level(int k, int kind) {
        if (k < 0 || k >= LEVELS || kind < 0 || kind >= KINDS) {
            return BAD_ARG;
        }
        int before = kindOf[k];
        kindOf[k] = kind;
        return before;
    }

    public int operator(int o, int k, int meaning) {
        if (o < 0 || o >= OPERATORS || k < 0 || k >= LEVELS || meaning < 0 || meaning >= MEANINGS) {
            return BAD_ARG;
        }
        int before = levelOf[o];
        levelOf[o] = k;
        meaningOf[o] = meaning;
        return before;
    }

    public int token(int t) {
        if (t < 0 || t >= TOKENS) {
            return BAD_ARG;
        }
        if (length >= CAPACITY) {
            return FULL;
        }
        text[length] = t;
        length++;
        return length;
    }

    public int untoken() {
        if (length == 0) {
            return NONE;
        }
        length--;
        return text[length];
    }

    public void clear() {
        length = 0;
    }

    public int size() {
        return length;
    }

    public boolean reads() {
        return readText(length);
    }

    public int strength() {
        return readText(length) ? strengthOf[length] : NONE;
    }

    public int value() {
        return readText(length) ? valueOf[length] : 0;
    }

    public int root() {
        if (!readText(length)) {
            return NONE;
        }
        for (int from = 0; from < length - from; from++) {
            int place = operatorOf[from * PLACES + length - from];
            if (place != NO_OPERATOR) {
                return place;
            }
        }
        return NONE;
    }

    public int depth(int i) {
        if (i < 0 || i >= length || !readText(length)) {
            return NONE;
        }
        return walkDown(i);
    }

    public int spare() {
        if (!readText(length)) {
            return NONE;
        }
        int count = 0;
        for (int place = 0; place < length; place++) {
            if (text[place] == OPEN && isSpare(place)) {
                count++;
            }
        }
        return count;
    }

    public int endings() {
        int count = 0;
        for (int t = 0; t < TOKENS; t++) {
            // The place behind the text is free, even behind a full one.
            text[length] = t;
            if (readText(length + 1)) {
                count++;
            }
        }
        return count;
    }

    /** Fills the tables for the first count tokens; whether these are an expression. */
    private boolean readText(int count) {
        for (int span = 0; span < SPANS; span++) {
            strengthOf[span] = NO_EXPRESSION;
        }
        for (int width = 1; width <= count; width++) {
            for (int from = 0; from + width <= count; from++) {
                readSpan(from, from + width);
            }
        }
        return strengthOf[count] != NO_EXPRESSION;
    }

    /** Needs all shorter spans to be read already. */
    private void readSpan(int from, int to) {
        int span = from * PLACES + to;
        operatorOf[span] = NO_OPERATOR;
        if (to - from == 1) {
            readNumber(span, text[from]);
            return;
        }
        if (text[from] == OPEN && text[to - 1] == CLOSE) {
            readBrackets(span, (from + 1) * PLACES + to - 1);
        }
        // An expression is made in one way only, so the first one found is the one.
        for (int place = from; place < to && strengthOf[span] == NO_EXPRESSION; place++) {
            if (isOperator(text[place]) && joins(from, place, to)) {
                strengthOf[span] = levelOf[text[place] - FIRST_OPERATOR];
                operatorOf[span] = place;
                valueOf[span] = joinedValue(from, place, to);
            }
        }
    }

    private void readNumber(int span, int t) {
        if (t < FIRST_OPERATOR) {
            strengthOf[span] = STRONGEST;
            valueOf[span] = t;
        }
    }

    private void readBrackets(int span, int inner) {
        if (strengthOf[inner] != NO_EXPRESSION) {
            strengthOf[span] = STRONGEST;
            valueOf[span] = valueOf[inner];
        }
    }

    private static boolean isOperator(int t) {
        return t >= FIRST_OPERATOR && t < OPEN;
    }

    /** Whether the operator at this place has, in this span, just the operands that its kind asks for. */
    private boolean joins(int from, int place, int to) {
        int k = levelOf[text[place] - FIRST_OPERATOR];
        int kind = kindOf[k];
        int first = strengthOf[from * PLACES + place];
        int second = strengthOf[(place + 1) * PLACES + to];
        boolean firstFits = kind == BEFORE ? place == from : first >= needOfFirst(k);
        boolean secondFits = kind == BEHIND ? place + 1 == to : second >= needOfSecond(k);
        return firstFits && secondFits;
    }

    /** The strength that an operand in front of an operator of level k must have. */
    private int needOfFirst(int k) {
        return kindOf[k] == RIGHT || kindOf[k] == NEITHER ? k + 1 : k;
    }

    /** The strength that an operand after an operator of level k must have. */
    private int needOfSecond(int k) {
        return kindOf[k] == LEFT || kindOf[k] == NEITHER ? k + 1 : k;
    }

    private int joinedValue(int from, int place, int to) {
        int o = text[place] - FIRST_OPERATOR;
        int kind = kindOf[levelOf[o]];
        int first = valueOf[from * PLACES + place];
        int second = valueOf[(place + 1) * PLACES + to];
        if (kind == BEFORE) {
            return valueOfOne(meaningOf[o], second);
        }
        if (kind == BEHIND) {
            return valueOfOne(meaningOf[o], first);
        }
        return valueOfTwo(meaningOf[o], first, second);
    }

    private static int valueOfOne(int meaning, int a) {
        switch (meaning) {
            case 0:
                return -a;
            case 1:
                return a + 1;
            case 2:
                return 2 * a;
            default:
                return 7 * a + 3;
        }
    }

    private static int valueOfTwo(int meaning, int a, int b) {
        switch (meaning) {
            case 0:
                return a + b;
            case 1:
                return a - b;
            case 2:
                return a * b;
            default:
                return 10 * a + b;
        }
    }

    /**
     * Whether the pair that opens here could go. Without it the operators keep their operands just
     * when what is within is as strong as the place where the pair stands asks for.
     */
    private boolean isSpare(int open) {
        walkDown(open);
        return strengthOf[(walkFrom + 1) * PLACES + walkTo - 1] >= walkNeed;
    }

    /**
     * Walks from the whole text, which must be an expression, to the smallest part that the token
     * is a number, bracket or last operator of; answers how many steps that took.
     */
    private int walkDown(int place) {
        walkFrom = 0;
        walkTo = length;
        walkNeed = 0;
        int steps = 0;
        while (steps < LONGEST && stepDown(place)) {
            steps++;
        }
        return steps;
    }

    /** Goes into the operand or brackets that the token is in; false if it is in none. */
    private boolean stepDown(int place) {
        int split = operatorOf[walkFrom * PLACES + walkTo];
        if (split == NO_OPERATOR) {
            return stepIntoBrackets(place);
        }
        if (place == split) {
            return false;
        }
        int k = levelOf[text[split] - FIRST_OPERATOR];
        if (place < split) {
            walkTo = split;
            walkNeed = needOfFirst(k);
        } else {
            walkFrom = split + 1;
            walkNeed = needOfSecond(k);
        }
        return true;
    }

    private boolean stepIntoBrackets(int place) {
        if (place == walkFrom || place == walkTo - 1) {
            return false;
        }
        walkFrom++;
        walkTo--;
        walkNeed = 0;
        return true;
    }
}
