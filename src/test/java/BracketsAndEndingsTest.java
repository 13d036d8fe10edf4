/** Promises 13 to 15: spare, endings, and that endings looks past the limit of the text. */
public final class BracketsAndEndingsTest {
    public static void main(String[] args) {
        spareBetween();
        spareAtOne();
        spareInBrackets();
        spareOfNoExpression();
        endingsOfShortTexts();
        endingsByKind();
        endingsOfFullTexts();
        Check.end();
    }

    private static void spare(String kinds, String text, int due) {
        Check.same(kinds + " " + text + " spare", Check.reader(kinds, text).spare(), due);
    }

    private static void endings(String kinds, String text, int due) {
        MixfixReader r = Check.reader(kinds, text);
        Check.same(kinds + " " + text + " endings", r.endings(), due);
        Check.same(kinds + " " + text + " size after endings", r.size(), text.length());
    }

    private static void spareBetween() {
        spare("L", "1", 0);
        spare("L", "1a2", 0);
        spare("L", "(1a2)a3", 1);
        spare("L", "1a(2a3)", 0);
        spare("R", "(1a2)a3", 0);
        spare("R", "1a(2a3)", 1);
        spare("N", "(1a2)a3", 0);
        spare("N", "1a(2a3)", 0);
        spare("L", "1a(2c3)", 1);
        spare("L", "(1c2)a3", 1);
        spare("L", "(1a2)c3", 0);
        spare("L", "1c(2a3)", 0);
        spare("L", "(1)a(2)", 2);
        // Without the pair these would still be expressions, with the same values but other operands.
        spare("L", "0a(0a0)", 0);
        spare("R", "(0a0)a0", 0);
    }

    private static void spareAtOne() {
        spare("<", "a(a3)", 1);
        spare(">", "(3a)a", 1);
        spare("<L", "a(3c4)", 1);
        spare("<L", "(a3)c4", 0);
        spare("<L", "3c(a4)", 0);
        spare("L<", "(c3)a4", 1);
        spare("L<", "c(3a4)", 0);
        spare("L<", "3a(c4)", 1);
        spare("L>", "(3a4)c", 0);
        spare(">L", "(3c4)a", 1);
        spare("<>", "a(3c)", 1);
        spare("<>", "(a3)c", 0);
        spare("<>", "a3c", 0);
        spare("><", "(c3)a", 1);
        spare("><", "c(3a)", 0);
    }

    private static void spareInBrackets() {
        spare("L", "(1)", 1);
        spare("L", "((1))", 2);
        spare("L", "(((((((1)))))))", 7);
        spare("L", "(1a2)", 1);
        spare("L", "((1a2))", 2);
        // Each of the two could go, though not both.
        spare("L", "((1a2))c3", 2);
        spare("L", "1a((2a(3)))", 3);
        spare("N", "(((1)a2)a3)", 2);
    }

    private static void spareOfNoExpression() {
        for (String text : new String[] {"", "(", "()", "(1", "(1)(2)", "(1)a", "a(1)"}) {
            spare("L", text, MixfixReader.NONE);
        }
    }

    private static void endingsOfShortTexts() {
        endings("LLLLL", "", 10);
        endings("LLLLL", "1", 0);
        endings("LLLLL", "1a", 10);
        endings("LLLLL", "1aa", 0);
        endings("LLLLL", "(", 0);
        endings("LLLLL", "(1", 1);
        endings("LLLLL", "((1", 0);
        endings("LLLLL", "(1a", 0);
        endings("LLLLL", "(1a2", 1);
        endings("LLLLL", "(1)", 0);
        endings("LLLLL", ")", 0);
        endings("NLLLL", "1a2a", 0);
        endings("NLLLL", "1a2c", 10);
    }

    private static void endingsByKind() {
        endings("<", "a", 10);
        endings("<", "1", 0);
        endings(">", "1", 2);
        endings(">>", "1", 4);
        endings(">>>>>", "1", 8);
        endings(">>>>>", "1a", 2);
        endings(">>>>>", "1h", 8);
        endings(">>>>>", "(1", 1);
        endings("L>", "1a2", 2);
        endings("<L", "a2c", 10);
        endings("<>", "a2", 2);
    }

    private static void endingsOfFullTexts() {
        endings(">>>>>", "1aaaaaaaaaaaaaa", 2);
        endings(">LLLL", "1c1c1c1c1c1c1c1", 2);
        endings("<<<<<", "aaaaaaaaaaaaaaa", 10);
        endings("<LLLL", "a1c1c1c1c1c1c1c", 10);
        endings("<LLLL", "a1c1c1c1c1c1c(1", 1);
        endings("LLLLL", "1a1a1a1a1a1a1a1", 0);
        MixfixReader r = Check.reader(">LLLL", "1c1c1c1c1c1c1c1");
        r.endings();
        Check.same("token when full, after endings", r.token(1), MixfixReader.FULL);
        Check.same("reads when full, after endings", r.reads(), true);
        Check.same("untoken when full, after endings", r.untoken(), 1);
    }
}
