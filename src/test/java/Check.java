/** What the tests share: comparing answers, and reading a text from tokens or letters. */
final class Check {
    private static int wrong = 0;
    private static int checks = 0;

    private Check() {
    }

    static void same(String what, long got, long want) {
        checks++;
        if (got != want) {
            wrong++;
            System.out.println(what + " answered " + got + ", due is " + want);
        }
    }

    static void same(String what, boolean got, boolean want) {
        same(what, got ? 1 : 0, want ? 1 : 0);
    }

    static void same(String what, String got, String want) {
        checks++;
        if (!got.equals(want)) {
            wrong++;
            System.out.println(what + " tells " + got + ", due is " + want);
        }
    }

    /**
     * All that can be learnt of a reader, in less than 120 calls: every answer on its text, the
     * text, the kinds, and the operators' levels and meanings. The reader is used up by it.
     */
    static String everything(MixfixReader reader) {
        StringBuilder told = new StringBuilder();
        told.append(answers(reader)).append(" text");
        for (int n = reader.size(); n > 0; n--) {
            told.append(' ').append(reader.untoken());
        }
        told.append(" kinds");
        for (int k = 0; k < 5; k++) {
            told.append(' ').append(reader.level(k, 0));
        }
        told.append(" levels and values");
        for (int o = 0; o < 8; o++) {
            reader.clear();
            type(reader, "9" + (char) ('a' + o) + "4");
            told.append(' ').append(reader.value()).append(' ').append(reader.operator(o, 0, 0));
        }
        return told.toString();
    }

    /** What the questions answer on the reader's text; the reader stays as it is. */
    static String answers(MixfixReader reader) {
        StringBuilder told = new StringBuilder();
        told.append("size ").append(reader.size()).append(" reads ").append(reader.reads());
        told.append(" strength ").append(reader.strength()).append(" value ").append(reader.value());
        told.append(" root ").append(reader.root()).append(" depths");
        for (int i = -1; i <= reader.size(); i++) {
            told.append(' ').append(reader.depth(i));
        }
        told.append(" spare ").append(reader.spare()).append(" endings ").append(reader.endings());
        return told.toString();
    }

    /** Appends digits, the operators a to h for 0 to 7, and round brackets; blanks are skipped. */
    static void type(MixfixReader reader, String letters) {
        for (char c : letters.toCharArray()) {
            if (c != ' ') {
                reader.token(tokenOf(c));
            }
        }
    }

    /** A reader with these kinds of the levels 0 to 4, and this text. */
    static MixfixReader reader(String kinds, String letters) {
        MixfixReader reader = new MixfixReader();
        for (int k = 0; k < kinds.length(); k++) {
            reader.level(k, "LRN<>".indexOf(kinds.charAt(k)));
        }
        type(reader, letters);
        return reader;
    }

    static int tokenOf(char c) {
        if (c == '(') {
            return 18;
        }
        if (c == ')') {
            return 19;
        }
        return c <= '9' ? c - '0' : 10 + c - 'a';
    }

    static void end() {
        System.out.println(checks + " checks, " + wrong + " wrong");
        if (wrong != 0 || checks == 0) {
            System.exit(1);
        }
    }
}
