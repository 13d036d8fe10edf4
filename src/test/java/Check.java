/** What the tests share: comparing answers, and reading a text from tokens or letters. */
final class Check {
    private static int wrong = 0;
    private static int checks = 0;

    private Check() {
    }

    static void same(String what, long got, long want) {
        checks++;
        if (got != want) {
            wrong++;
            System.out.println(what + " answered " + got + ", due is " + want);
        }
    }

    static void same(String what, boolean got, boolean want) {
        same(what, got ? 1 : 0, want ? 1 : 0);
    }

    /** Appends digits, the operators a to h for 0 to 7, and round brackets; blanks are skipped. */
    static void type(MixfixReader reader, String letters) {
        for (char c : letters.toCharArray()) {
            if (c != ' ') {
                reader.token(tokenOf(c));
            }
        }
    }

    /** A reader with these kinds of the levels 0 to 4, and this text. */
    static MixfixReader reader(String kinds, String letters) {
        MixfixReader reader = new MixfixReader();
        for (int k = 0; k < kinds.length(); k++) {
            reader.level(k, "LRN<>".indexOf(kinds.charAt(k)));
        }
        type(reader, letters);
        return reader;
    }

    static int tokenOf(char c) {
        if (c == '(') {
            return 18;
        }
        if (c == ')') {
            return 19;
        }
        return c <= '9' ? c - '0' : 10 + c - 'a';
    }

    static void end() {
        System.out.println(checks + " checks, " + wrong + " wrong");
        if (wrong != 0 || checks == 0) {
            System.exit(1);
        }
    }
}
