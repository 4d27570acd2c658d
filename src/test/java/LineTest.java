/** Promises 1 to 6, 23 and what count() tells of them. */
public final class LineTest {
    private static final Check check = new Check("LineTest");

    public static void main(String[] args) {
        aNewObject();
        feeding();
        dropping();
        folds();
        foldedLines();
        words();
        brokenLines();
        longLines();
        breaks();
        signs();
        check.end();
    }

    private static void aNewObject() {
        PostalLines x = new PostalLines();
        for (int what = 0; what <= 9; what++) check.due("new: count(" + what + ")", x.count(what), 0);
        check.due("count(-1)", x.count(-1), PostalLines.BAD);
        check.due("count(10)", x.count(10), PostalLines.BAD);
        check.due("count(min)", x.count(Integer.MIN_VALUE), PostalLines.BAD);
        check.due("count(max)", x.count(Integer.MAX_VALUE), PostalLines.BAD);
        check.due("new: unitAt(0)", x.unitAt(0), PostalLines.NONE);
        check.due("new: words()", x.words(), PostalLines.EMPTY);
        check.due("new: drop()", x.drop(), 0);
        check.due("new: cost()", x.cost(), 0);
        check.due("new: mark(0)", x.mark(0), PostalLines.NONE);
        PostalLines other = new PostalLines();
        Check.feed(other, "abc");
        check.due("objects share nothing", x.count(0), 0);
    }

    private static void feeding() {
        PostalLines x = new PostalLines();
        check.due("feed(.., 0)", x.feed(5, 0), PostalLines.BAD);
        check.due("feed(.., 5)", x.feed(5, 5), PostalLines.BAD);
        check.due("feed(.., -1)", x.feed(5, -1), PostalLines.BAD);
        check.due("feed(.., max)", x.feed(5, Integer.MAX_VALUE), PostalLines.BAD);
        check.due("feed(.., min)", x.feed(5, Integer.MIN_VALUE), PostalLines.BAD);
        check.due("nothing came", x.count(0), 0);
        check.due("feed 4", x.feed(0x0001000200030004L, 4), 4);
        check.due("feed 2, what is above is not looked at", x.feed(0xfffffffffff5fff6L, 2), 6);
        check.due("feed 4 of the highest", x.feed(-1L, 4), 10);
        int[] want = {1, 2, 3, 4, 0xfff5, 0xfff6, 65535, 65535, 65535, 65535};
        for (int i = 0; i < want.length; i++) check.due("unitAt(" + i + ")", x.unitAt(i), want[i]);
        check.due("unitAt(10)", x.unitAt(10), PostalLines.NONE);
        check.due("unitAt(-1)", x.unitAt(-1), PostalLines.NONE);
        check.due("unitAt(min)", x.unitAt(Integer.MIN_VALUE), PostalLines.NONE);
        check.due("unitAt(max)", x.unitAt(Integer.MAX_VALUE), PostalLines.NONE);
        check.due("feed 3", x.feed(0x8000_0000_0000_0000L, 3), 13);
        for (int i = 0; i < 26; i++) x.feed(0, 4);
        check.due("117 UNITS", x.count(0), 117);
        check.due("4 more are too many", x.feed(7, 4), PostalLines.FULL);
        check.due("none of them came", x.count(0), 117);
        check.due("BAD comes ahead of FULL", x.feed(7, 5), PostalLines.BAD);
        check.due("3 more are not", x.feed(0x000700080009L, 3), 120);
        check.due("unitAt(119)", x.unitAt(119), 9);
        check.due("unitAt(120)", x.unitAt(120), PostalLines.NONE);
        check.due("one more", x.feed(7, 1), PostalLines.FULL);
    }

    private static void dropping() {
        PostalLines x = new PostalLines();
        Check.feed(x, "Anna 5");
        check.due("words()", x.words(), 2);
        check.due("drop()", x.drop(), 6);
        check.due("drop() again", x.drop(), 0);
        check.due("unitAt(0)", x.unitAt(0), PostalLines.NONE);
        check.due("words()", x.words(), PostalLines.EMPTY);
        check.due("sign(0, 0)", x.sign(0, 0), PostalLines.NONE);
        check.due("feed", x.feed('b', 1), 1);
        check.due("unitAt(0)", x.unitAt(0), 'b');
    }

    private static void folds() {
        PostalLines x = new PostalLines();
        int[] bad = {-1, -2, 55296, 56319, 56320, 57343, 1114112, Integer.MIN_VALUE, Integer.MAX_VALUE};
        for (int sign : bad) {
            check.due("fold(" + sign + ", 97, 98)", x.fold(sign, 97, 98), PostalLines.BAD);
            check.due("fold(97, " + sign + ", 98)", x.fold(97, sign, 98), PostalLines.BAD);
            if (sign != -1) check.due("fold(97, 98, " + sign + ")", x.fold(97, 98, sign), PostalLines.BAD);
        }
        check.due("no FOLD yet", x.count(9), 0);
        int[] good = {0, 55295, 57344, 65535, 65536, 1114111};
        for (int sign : good) {
            check.due("fold(" + sign + ", ..)", x.fold(sign, sign, sign), 1);
            check.due("fold(" + sign + ", ..) again", x.fold(sign, 97, -1), PostalLines.TWICE);
            check.due("BAD ahead of TWICE", x.fold(sign, -1, -1), PostalLines.BAD);
        }
        for (int i = 6; i < 30; i++) check.due("fold " + i, x.fold(200 + i, 97, -1), 1);
        check.due("a 31st", x.fold(300, 97, -1), PostalLines.FULL);
        check.due("TWICE ahead of FULL", x.fold(206, 97, -1), PostalLines.TWICE);
        check.due("30 FOLDS", x.count(9), 30);
    }

    private static void foldedLines() {
        PostalLines x = new PostalLines();
        check.due("fold sharp s", x.fold(223, 's', 's'), 1);
        check.due("fold o", x.fold('o', 'O', -1), 1);
        check.due("fold Q", x.fold('Q', 'k', 'w'), 1);
        check.due("fold k", x.fold('k', 'z', -1), 1);
        check.due("fold blank", x.fold(' ', 'y', -1), 1);
        check.due("fold -", x.fold('-', ',', -1), 1);
        check.due("fold /", x.fold('/', ',', 'x'), 1);
        check.due("fold a smiling one", x.fold(128512, 'h', 128513), 1);
        Check.line(x, "Stra\u00dfe");
        check.due("two for one", Check.wordsOf(x), "strasse");
        Check.line(x, "Wort");
        check.due("what it becomes is not FOLDED again: O stands between", Check.wordsOf(x), "w rt");
        Check.line(x, "QKk");
        check.due("Q has a FOLD, K none", Check.wordsOf(x), "kwkz");
        Check.line(x, "a b");
        check.due("a blank may be a SIGN of a WORD", Check.wordsOf(x), "ayb");
        Check.line(x, "a-b");
        check.due("a FOLD may make a BREAK", Check.wordsOf(x), "a, b");
        Check.line(x, "a/b");
        check.due("and a SIGN behind it", Check.wordsOf(x), "a, xb");
        Check.line(x, "\ud83d\ude00");
        check.due("a FOLD of a pair", Check.wordsOf(x), "h\ud83d\ude01");
        Check.line(x, "m");
        check.due("words as they are", Check.wordsOf(x), "m");
        x.fold('m', 'n', -1);
        check.due("a FOLD that comes later", Check.wordsOf(x), "n");
    }

    private static void words() {
        PostalLines x = new PostalLines();
        Check.line(x, "`{@[/:\u007f \t\n;.!");
        check.due("none of these is of a WORD", x.words(), PostalLines.EMPTY);
        Check.line(x, "az09AZ\u0080\ud7ff\ue000\uffff");
        check.due("all of these are", x.words(), 1);
        check.due("FOLDED", Check.wordsOf(x), "az09az\u0080\ud7ff\ue000\uffff");
        Check.line(x, "..12 Main St.b");
        check.due("4 WORDS", x.words(), 4);
        check.due("4 WORDS", Check.wordsOf(x), "12 main st b");
        Check.line(x, "\u00c4B");
        check.due("only 65 .. 90 become less without a FOLD", Check.wordsOf(x), "\u00c4b");
    }

    private static void brokenLines() {
        PostalLines x = new PostalLines();
        String[] broken = {"a\ud800", "\udc00a", "\ud800\ud800\udc00", "\ud800\udc00\udc00", "\ud83da\ude00",
            "\udc00\ud800", "\udfff", "\udbff", "\udc00\udc01", "\ud800\ue000", "\udbff\udbff", "abcdefghijklmnopq \ud800", "\ud800", "..\udfff.."};
        for (String line : broken) {
            Check.line(x, line);
            check.due("words() of a BROKEN line", x.words(), PostalLines.BROKEN);
            check.due("sign(0, 0)", x.sign(0, 0), PostalLines.NONE);
            check.due("sign(0, -1)", x.sign(0, -1), PostalLines.NONE);
            check.due("sign(0, -2)", x.sign(0, -2), PostalLines.NONE);
        }
        Check.line(x, "\ud800\udc00\udbff\udfff\ud83d\ude00");
        check.due("three pairs", x.sign(0, -1), 3);
        check.due("the first", x.sign(0, 0), 65536);
        check.due("the last", x.sign(0, 1), 1114111);
        check.due("one between", x.sign(0, 2), 128512);
        Check.line(x, "\ud800");
        check.due("half of a pair", x.words(), PostalLines.BROKEN);
        x.feed(0xdc00, 1);
        check.due("the other half", x.words(), 1);
    }

    private static void longLines() {
        PostalLines x = new PostalLines();
        Check.line(x, "abcdefghijklmnop qrstuvwxyz123456");
        check.due("16 SIGNS", x.words(), 2);
        check.due("16 SIGNS", x.sign(1, -1), 16);
        check.due("the 16th", x.sign(1, 15), '6');
        check.due("no 17th", x.sign(1, 16), PostalLines.NONE);
        Check.feed(x, "7");
        check.due("17 SIGNS", x.words(), PostalLines.LONG);
        check.due("no SIGN then", x.sign(0, 0), PostalLines.NONE);
        Check.line(x, "a b c d e f g h i j k l m n");
        check.due("14 WORDS", x.words(), 14);
        check.due("the 14th", x.sign(13, 0), 'n');
        Check.feed(x, " ");
        check.due("14 WORDS still", x.words(), 14);
        Check.feed(x, "o");
        check.due("15 WORDS", x.words(), PostalLines.LONG);
        Check.feed(x, " \udc00");
        check.due("BROKEN ahead of LONG", x.words(), PostalLines.BROKEN);
        Check.line(x, "\udc00 abcdefghijklmnopqrs");
        check.due("BROKEN ahead of LONG", x.words(), PostalLines.BROKEN);
        StringBuilder pairs = new StringBuilder();
        for (int i = 0; i < 16; i++) pairs.append("\ud83d\ude00");
        Check.line(x, pairs.toString());
        check.due("16 pairs", x.words(), 1);
        Check.feed(x, "a");
        check.due("and one more SIGN", x.words(), PostalLines.LONG);
        x.fold('z', 'y', 'y');
        Check.line(x, "zzzzzzzz");
        check.due("16 FOLDED SIGNS", x.sign(0, -1), 16);
        Check.feed(x, "z");
        check.due("18 FOLDED SIGNS", x.words(), PostalLines.LONG);
        Check.line(x, "zzzzzzzza");
        check.due("17 FOLDED SIGNS", x.words(), PostalLines.LONG);
        StringBuilder many = new StringBuilder();
        for (int i = 0; i < 60; i++) many.append("a ");
        Check.line(x, many.toString());
        check.due("60 WORDS", x.words(), PostalLines.LONG);
    }

    private static void breaks() {
        PostalLines x = new PostalLines();
        Check.line(x, ",a, b c ,d,,e . , . f,");
        check.due("BREAKS", Check.wordsOf(x), "a, b c, d, e, f");
        check.due("none ahead of the first", x.sign(0, -2), 0);
        check.due("ahead of b", x.sign(1, -2), 1);
        check.due("not ahead of c", x.sign(2, -2), 0);
        check.due("ahead of none", x.sign(6, -2), PostalLines.NONE);
        Check.line(x, "a\uff0cb");
        check.due("another comma is a SIGN of a WORD", x.words(), 1);
    }

    private static void signs() {
        PostalLines x = new PostalLines();
        Check.line(x, "Ab 7");
        int[] none = {-3, 2, 3, 16, Integer.MIN_VALUE, Integer.MAX_VALUE};
        for (int i : none) check.due("sign(0, " + i + ")", x.sign(0, i), PostalLines.NONE);
        int[] words = {-1, 2, 14, Integer.MIN_VALUE, Integer.MAX_VALUE};
        for (int k : words) {
            for (int i = -2; i <= 1; i++) check.due("sign(" + k + ", " + i + ")", x.sign(k, i), PostalLines.NONE);
        }
        check.due("sign(0, -1)", x.sign(0, -1), 2);
        check.due("sign(0, 0)", x.sign(0, 0), 'a');
        check.due("sign(0, 1)", x.sign(0, 1), 'b');
        check.due("sign(1, 0)", x.sign(1, 0), '7');
        check.due("sign(1, 1)", x.sign(1, 1), PostalLines.NONE);
        check.due("sign(1, -1)", x.sign(1, -1), 1);
        check.due("THE LINE stays", Check.lineOf(x), "Ab 7");
    }
}
