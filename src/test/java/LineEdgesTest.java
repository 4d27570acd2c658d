/** The boundary cases of promises 1 to 6, 23 and 24, and of what Terms says of THE LINE. */
public final class LineEdgesTest {
    private static final int NONE = PostalLines.NONE, BAD = PostalLines.BAD, BROKEN = PostalLines.BROKEN;
    private static final int LONG = PostalLines.LONG, EMPTY = PostalLines.EMPTY, TWICE = PostalLines.TWICE;
    private static final int FULL = PostalLines.FULL, LEAST = Integer.MIN_VALUE, MOST = Integer.MAX_VALUE;
    private static final int[] SIGNS = {0, 1, 55295, 57344, 65535, 65536, 1114110, 1114111};
    private static final int[] NO_SIGNS = {-1, -2, 55296, 56319, 56320, 57343, 1114112, LEAST, MOST};
    private static final String SIXTEEN = "abcdefghijklmnop";
    private static final String FOURTEEN = "a b c d e f g h i j k l m n";
    private static final Edges e = new Edges("LineEdgesTest");

    public static void main(String[] args) {
        aNewObject();
        feed();
        feedRefused();
        drop();
        fold();
        foldRefused();
        words();
        sign();
        unitAt();
        count();
        units();
        brokenUnits();
        foldedSigns();
        wordsOfTheLine();
        calls();
        e.end();
    }

    private static void full(PostalLines x, int units) {
        for (int i = 0; i + 4 <= units; i += 4) x.feed(0x0061_0020_0062_0020L, 4);
        if (units % 4 > 0) x.feed(0x0063_0020_0064L, units % 4);
    }

    /** A book, a READING and a line. */
    private static void used(PostalLines x) {
        x.fold(233, 'e', -1);
        Check.grammar(x, 0, 0, 1, 2, 3, 4);
        Check.street(x, "main street");
        Check.town(x, "ulm");
        Check.unit(x, "apt");
        Check.shorten(x, "st", "street");
        x.range(0, 0, 9, 0, 0, 3);
        Check.read(x, "7b main st apt 4 ulm 12345");
    }

    private static void aNewObject() {
        e.promise(1);
        e.says("An empty LINE");
        e.is(0, "count(0)", x -> x.count(0));
        e.is(NONE, "unitAt(0)", x -> x.unitAt(0));
        e.is(EMPTY, "words()", x -> x.words());
        e.is(NONE, "sign(0, 0)", x -> x.sign(0, 0));
        e.is(NONE, "sign(0, -1)", x -> x.sign(0, -1));
        e.is(NONE, "sign(0, -2)", x -> x.sign(0, -2));
        e.is(0, "drop()", x -> x.drop());
        e.is(1, "feed", x -> x.feed(0, 1));
        e.refuses(EMPTY, "name()", x -> x.name());
        e.says("nothing in the book");
        for (int what = 1; what <= 9; what++) {
            int w = what;
            e.is(0, "count(" + w + ")", x -> x.count(w));
        }
        e.refuses(BAD, "shorten(0, 1)", x -> x.shorten(0, 1));
        e.refuses(BAD, "street(0)", x -> x.street(0));
        e.refuses(BAD, "also(0, 0)", x -> x.also(0, 0));
        e.refuses(BAD, "town(0, 0, 0)", x -> x.town(0, 0, 0));
        e.refuses(BAD, "unit(0)", x -> x.unit(0));
        e.refuses(BAD, "range(0, 0, 0, 0, 0, 0)", x -> x.range(0, 0, 0, 0, 0, 0));
        e.refuses(BAD, "read(0)", x -> x.read(0));
        e.refuses(BAD, "fits(0, 0)", x -> x.fits(0, 0));
        e.refuses(BAD, "fits(1, 0)", x -> x.fits(1, 0));
        e.refuses(BAD, "of(0, 0)", x -> x.of(0, 0));
        e.refuses(BAD, "carrier(0)", x -> x.carrier(0));
        e.refuses(BAD, "canonical(0)", x -> x.canonical(0));
        e.is(NONE, "unitSign(0, 0)", x -> x.unitSign(0, 0));
        e.is(0, "cost()", x -> x.cost());
        e.is(NONE, "mark(0)", x -> x.mark(0));
        e.given(x -> used(new PostalLines()));
        e.is(0, "names of another object", x -> x.count(1));
        e.is(BAD, "grammars of another object", x -> x.read(0));
    }

    private static void feed() {
        e.promise(2);
        e.says("n UNITS (1 .. 4)");
        for (int n : new int[] {1, 2, 3, 4}) e.is(n, "n " + n, x -> x.feed(0, n));
        e.says("the lowest 16 bits of w the last one");
        e.given(x -> x.feed(0x0001_0002_0003_0004L, 4));
        for (int i : new int[] {0, 1, 2, 3}) e.is(i + 1, "n 4, UNIT " + i, x -> x.unitAt(i));
        e.given(x -> x.feed(0x0001_0002_0003_0004L, 3));
        for (int i : new int[] {0, 1, 2}) e.is(i + 2, "n 3, UNIT " + i, x -> x.unitAt(i));
        e.given(x -> x.feed(0x0001_0002_0003_0004L, 2));
        for (int i : new int[] {0, 1}) e.is(i + 3, "n 2, UNIT " + i, x -> x.unitAt(i));
        e.given(x -> x.feed(0x0001_0002_0003_0004L, 1));
        e.is(4, "n 1, UNIT 0", x -> x.unitAt(0));
        e.given(x -> x.feed(-1L, 4));
        for (int i : new int[] {0, 1, 2, 3}) e.is(65535, "w -1, UNIT " + i, x -> x.unitAt(i));
        e.given(x -> x.feed(Long.MIN_VALUE, 4));
        e.is(32768, "w least, UNIT 0", x -> x.unitAt(0));
        e.is(0, "w least, UNIT 1", x -> x.unitAt(1));
        e.given(x -> x.feed(0x7fff_ffff_0000_8000L, 2));
        e.is(0, "w 0x7fffffff00008000, n 2, UNIT 0", x -> x.unitAt(0));
        e.is(32768, "w 0x7fffffff00008000, n 2, UNIT 1", x -> x.unitAt(1));
        e.says("come behind THE LINE");
        e.given(x -> {
            x.feed('a', 1);
            x.feed(0x0062_0063L, 2);
        });
        e.is('a', "UNIT 0", x -> x.unitAt(0));
        e.is('b', "UNIT 1", x -> x.unitAt(1));
        e.is('c', "UNIT 2", x -> x.unitAt(2));
        e.is(NONE, "UNIT 3", x -> x.unitAt(3));
        e.given(x -> {
            Check.feed(x, "ab c");
            x.words();
            x.feed('d', 1);
        });
        e.is(2, "words() of it", x -> x.words());
        e.is('d', "a SIGN of it", x -> x.sign(1, 1));
        e.says("how many it has");
        e.given(x -> full(x, 116));
        e.is(120, "4 behind 116", x -> x.feed(0, 4));
        e.is(117, "1 behind 116", x -> x.feed(0, 1));
        e.given(x -> full(x, 117));
        e.is(120, "3 behind 117", x -> x.feed(0, 3));
        e.given(x -> full(x, 119));
        e.is(120, "1 behind 119", x -> x.feed(0, 1));
    }

    private static void feedRefused() {
        e.says("FULL");
        e.given(x -> full(x, 120));
        for (int n : new int[] {1, 2, 3, 4}) e.refuses(FULL, n + " behind 120", x -> x.feed(0, n));
        e.given(x -> full(x, 119));
        e.refuses(FULL, "2 behind 119", x -> x.feed(0x0061_0062L, 2));
        e.given(x -> full(x, 118));
        e.refuses(FULL, "3 behind 118", x -> x.feed(0x0061_0062_0063L, 3));
        e.given(x -> full(x, 117));
        e.refuses(FULL, "4 behind 117", x -> x.feed(0x0061_0062_0063_0064L, 4));
        e.says("BAD");
        for (int n : new int[] {0, -1, 5, 6, 64, LEAST, MOST}) {
            e.given(x -> { });
            e.refuses(BAD, "n " + n, x -> x.feed(0x0061_0062_0063_0064L, n));
            e.given(x -> full(x, 120));
            e.refuses(BAD, "ahead of FULL, n " + n, x -> x.feed(0x0061_0062_0063_0064L, n));
        }
    }

    private static void drop() {
        e.promise(3);
        e.says("THE LINE is empty");
        e.given(x -> {
            Check.feed(x, "anna 5");
            x.words();
            x.drop();
        });
        e.is(0, "count(0)", x -> x.count(0));
        e.is(NONE, "unitAt(0)", x -> x.unitAt(0));
        e.is(EMPTY, "words()", x -> x.words());
        e.is(NONE, "sign(0, 0)", x -> x.sign(0, 0));
        e.is(1, "feed", x -> x.feed('b', 1));
        e.given(x -> {
            full(x, 120);
            x.drop();
        });
        e.is(4, "feed, where it was full", x -> x.feed(0, 4));
        for (String line : new String[] {SIXTEEN + "q", FOURTEEN + " o", "\ud800", "a,", ""}) {
            e.given(x -> {
                Check.feed(x, line);
                x.words();
            });
            e.isOf(2, "a b", x -> x.words());
            e.folds("a b", "a b");
        }
        e.given(x -> {
            used(x);
            x.drop();
        });
        e.is(5, "the book stays", x -> x.count(1));
        e.is(1, "the FOLDS stay", x -> x.count(9));
        e.is(1, "the DELIVERIES stay", x -> x.of(0, 12));
        e.is(1, "the READING's COST stays", x -> x.cost());
        e.is(1, "the READING's marks stay", x -> x.mark(2));
        e.says("how many UNITS it had");
        e.is(0, "none", x -> x.drop());
        e.given(x -> full(x, 1));
        e.is(1, "one", x -> x.drop());
        e.given(x -> full(x, 120));
        e.is(120, "120", x -> x.drop());
        e.given(x -> {
            full(x, 120);
            x.drop();
        });
        e.is(0, "dropped already", x -> x.drop());
    }

    private static void fold() {
        e.promise(4);
        e.says("A SIGN (0 .. 1114111, none of 55296 .. 57343)");
        for (int sign : SIGNS) e.is(1, "fold(" + sign + ", ..)", x -> x.fold(sign, 'x', -1));
        for (int sign : NO_SIGNS) e.refuses(BAD, "fold(" + sign + ", ..)", x -> x.fold(sign, 'x', -1));
        e.says("is FOLDED to a, and to b behind it");
        e.given(x -> x.fold('q', 'k', 'w'));
        e.folds("aqa", "akwa");
        e.given(x -> x.fold(0, 'k', 'w'));
        e.folds("a\0a", "akwa");
        e.given(x -> x.fold(55295, 'k', 'w'));
        e.folds("a\ud7ffa", "akwa");
        e.given(x -> x.fold(57344, 'k', 'w'));
        e.folds("a\ue000a", "akwa");
        e.given(x -> x.fold(65535, 'k', 'w'));
        e.folds("a\uffffa", "akwa");
        e.given(x -> x.fold(65536, 'k', 'w'));
        e.folds("a\ud800\udc00a", "akwa");
        e.given(x -> x.fold(1114111, 'k', 'w'));
        e.folds("a\udbff\udfffa", "akwa");
        e.given(x -> x.fold('q', 65536, 1114111));
        e.folds("aqa", "a\ud800\udc00\udbff\udfffa");
        e.given(x -> x.fold('q', 'w', 0));
        e.folds("aqa", "aw a");
        e.given(x -> x.fold('q', 0, 'w'));
        e.folds("aqa", "a wa");
        e.says("likewise");
        for (int sign : SIGNS) {
            e.is(1, "fold(97, " + sign + ", -1)", x -> x.fold(97, sign, -1));
            e.is(1, "fold(97, 98, " + sign + ")", x -> x.fold(97, 98, sign));
        }
        for (int sign : NO_SIGNS) {
            e.refuses(BAD, "fold(97, " + sign + ", 98)", x -> x.fold(97, sign, 98));
            e.refuses(BAD, "fold(97, " + sign + ", -1)", x -> x.fold(97, sign, -1));
            if (sign != -1) e.refuses(BAD, "fold(97, 98, " + sign + ")", x -> x.fold(97, 98, sign));
        }
        e.says("-1: to a alone): 1");
        e.is(1, "fold('q', 'k', -1)", x -> x.fold('q', 'k', -1));
        e.given(x -> x.fold('q', 'k', -1));
        e.folds("aqa", "aka");
    }

    private static void foldRefused() {
        e.says("BAD");
        e.given(x -> x.fold('q', 'k', -1));
        e.refuses(BAD, "ahead of TWICE", x -> x.fold('q', -1, -1));
        e.given(x -> manyFolds(x, 30));
        e.refuses(BAD, "ahead of FULL", x -> x.fold('q', 'k', -2));
        e.says("TWICE: it has a FOLD");
        e.given(x -> {
            x.fold('q', 'k', -1);
            x.fold(65536, 'k', 'w');
            Check.feed(x, "aqa");
        });
        e.refuses(TWICE, "to another", x -> x.fold('q', 'w', 'w'));
        e.refuses(TWICE, "to the same", x -> x.fold('q', 'k', -1));
        e.refuses(TWICE, "65536", x -> x.fold(65536, 'k', -1));
        e.is(1, "what it is FOLDED to may have one", x -> x.fold('k', 'q', -1));
        e.given(x -> manyFolds(x, 30));
        e.refuses(TWICE, "ahead of FULL: the first", x -> x.fold(200, 'k', -1));
        e.refuses(TWICE, "ahead of FULL: the last", x -> x.fold(229, 'k', -1));
        e.says("FULL");
        e.given(x -> manyFolds(x, 30));
        e.refuses(FULL, "a 31st", x -> x.fold(230, 'k', -1));
        e.given(x -> manyFolds(x, 29));
        e.is(1, "a 30th", x -> x.fold(230, 'k', -1));
    }

    private static int manyFolds(PostalLines x, int n) {
        int answer = 0;
        for (int i = x.count(9); i < n; i++) answer = x.fold(200 + i, 'x', -1);
        return answer;
    }

    private static void words() {
        e.promise(5);
        e.says("How many WORDS THE LINE has");
        e.isOf(1, "a", x -> x.words());
        e.isOf(14, FOURTEEN, x -> x.words());
        e.says("BROKEN");
        e.refusesOf(BROKEN, "\ud800", x -> x.words());
        e.refusesOf(BROKEN, "a \udfff", x -> x.words());
        e.says("LONG");
        e.refusesOf(LONG, SIXTEEN + "q", x -> x.words());
        e.refusesOf(LONG, FOURTEEN + " o", x -> x.words());
        e.says("EMPTY");
        e.refuses(EMPTY, "no UNIT", x -> x.words());
        e.refusesOf(EMPTY, " ", x -> x.words());
        e.refusesOf(EMPTY, Check.times(",", 120), x -> x.words());
    }

    private static void sign() {
        e.promise(6);
        e.says("SIGN i of WORD k of THE LINE, FOLDED");
        e.isOf('b', "a bc", x -> x.sign(1, 0));
        e.isOf('c', "a bC", x -> x.sign(1, 1));
        e.isOf('p', SIXTEEN, x -> x.sign(0, 15));
        e.isOf('n', FOURTEEN, x -> x.sign(13, 0));
        e.isOf(1114111, "a\udbff\udfff", x -> x.sign(0, 1));
        e.says("with i -1: how many there are");
        e.isOf(1, "a bc", x -> x.sign(0, -1));
        e.isOf(16, SIXTEEN, x -> x.sign(0, -1));
        e.isOf(2, "\udbff\udfffa", x -> x.sign(0, -1));
        e.says("-2: whether there is a BREAK ahead of it (1, 0)");
        e.isOf(1, "a, b c", x -> x.sign(1, -2));
        e.isOf(0, "a, b c", x -> x.sign(2, -2));
        e.isOf(0, ",a, b c", x -> x.sign(0, -2));
        e.says("NONE: there is none such");
        for (int i : new int[] {-3, 2, 3, 15, 16, 17, LEAST, MOST}) e.isOf(NONE, "ab c", x -> x.sign(0, i));
        e.isOf(NONE, SIXTEEN + " a", x -> x.sign(0, 16));
        for (int k : new int[] {-1, 2, 13, 14, LEAST, MOST, 1 << 28}) {
            for (int i : new int[] {-2, -1, 0, 1}) e.isOf(NONE, "ab c", x -> x.sign(k, i));
        }
        e.given(x -> {
            Check.feed(x, "ab cd ef");
            x.words();
        });
        e.isOf(NONE, "a b", x -> x.sign(2, 0));
        e.isOf(NONE, "a b", x -> x.sign(0, 1));
        e.isOf(NONE, "a b", x -> x.sign(2, -1));
        e.says("also where words() is refused");
        for (int i : new int[] {-2, -1, 0}) {
            e.isOf(NONE, "", x -> x.sign(0, i));
            e.isOf(NONE, ",", x -> x.sign(0, i));
            e.isOf(NONE, "a b\ud800", x -> x.sign(0, i));
            e.isOf(NONE, "a " + SIXTEEN + "q", x -> x.sign(0, i));
            e.isOf(NONE, FOURTEEN + " o", x -> x.sign(0, i));
        }
    }

    private static void unitAt() {
        e.promise(23);
        e.says("UNIT i of THE LINE");
        e.isOf('A', "Ab", x -> x.unitAt(0));
        e.isOf('b', "Ab", x -> x.unitAt(1));
        e.isOf(55357, "\ud83d\ude00", x -> x.unitAt(0));
        e.isOf(56832, "\ud83d\ude00", x -> x.unitAt(1));
        e.isOf(0, "\0", x -> x.unitAt(0));
        e.isOf(65535, "\uffff", x -> x.unitAt(0));
        e.given(x -> full(x, 119));
        e.is('z', "the 120th", x -> x.feed('z', 1) == 120 ? x.unitAt(119) : BAD);
        e.says("NONE");
        e.given(x -> full(x, 120));
        for (int i : new int[] {-1, 120, LEAST, MOST}) e.is(NONE, "unitAt(" + i + ") of 120", x -> x.unitAt(i));
        e.given(x -> {
            full(x, 120);
            x.drop();
            x.feed('a', 1);
        });
        e.is(NONE, "unitAt(1) where there was one", x -> x.unitAt(1));
    }

    private static void count() {
        e.promise(24);
        String[] counts = {"0 UNITS of THE LINE", "1 NAMES", "2 SHORTS", "3 STREETS", "4 TOWNS", "5 UNIT WORDS", "6 RANGES",
            "7 GRAMMARS", "8 DELIVERIES", "9 FOLDS"};
        int[] sizes = {26, 5, 1, 1, 1, 1, 1, 1, 1, 1};
        int[] more = {0, 15, 4, 2, 3, 6, 7, 1, 0, 5};
        for (int what = 0; what <= 9; what++) {
            int w = what;
            e.says(counts[w]);
            e.is(0, "none", x -> x.count(w));
            e.given(LineEdgesTest::used);
            e.is(sizes[w], "of a small book", x -> x.count(w));
            e.given(LineEdgesTest::growing);
            e.is(more[w], "of a book of many sizes", x -> x.count(w));
        }
        e.says("BAD");
        e.given(LineEdgesTest::used);
        for (int what : new int[] {-1, 10, LEAST, MOST}) e.refuses(BAD, "count(" + what + ")", x -> x.count(what));
    }

    private static void growing(PostalLines x) {
        Check.names(x, 15);
        x.drop();
        for (int i = 1; i <= 4; i++) x.shorten(0, i);
        for (int i = 0; i < 2; i++) x.street(i);
        for (int i = 0; i < 3; i++) x.town(i, 0, 0);
        for (int i = 0; i < 6; i++) x.unit(i);
        for (int i = 0; i < 7; i++) x.range(0, 0, 0, 0, 0, 0);
        x.grammar(1, 0, 0);
        for (int i = 0; i < 5; i++) x.fold(i, 'a', -1);
        x.also(0, 5);
    }

    private static void units() {
        e.terms("65535), 120 at most.");
        e.says("65535), 120 at most");
        e.is(120, "30 times 4", x -> {
            full(x, 116);
            return x.feed(-1L, 4);
        });
        e.given(x -> full(x, 120));
        e.refuses(FULL, "a 121st", x -> x.feed(-1L, 1));
        e.isOf(65535, "\uffff", x -> x.unitAt(0));
        e.isOf(65535, "\uffff", x -> x.sign(0, 0));
        e.says("One of 55296 .. 56319 with one of 56320 .. 57343 behind it are one SIGN");
        for (String pair : new String[] {"\ud800\udc00", "\ud800\udfff", "\udbff\udc00", "\udbff\udfff"}) {
            e.isOf(1, pair, x -> x.sign(0, -1));
            e.isOf(2, pair + pair, x -> x.sign(0, -1));
        }
        e.given(x -> {
            x.feed(0xd800, 1);
            x.words();
        });
        e.is(1, "in two calls", x -> x.feed(0xdc00, 1) == 2 ? x.words() : BAD);
        e.says("65536 and 1024 (the first less 55296) and the second less 56320");
        e.isOf(65536, "\ud800\udc00", x -> x.sign(0, 0));
        e.isOf(66559, "\ud800\udfff", x -> x.sign(0, 0));
        e.isOf(66560, "\ud801\udc00", x -> x.sign(0, 0));
        e.isOf(1113088, "\udbff\udc00", x -> x.sign(0, 0));
        e.isOf(1114111, "\udbff\udfff", x -> x.sign(0, 0));
        e.says("each other UNIT is a SIGN itself");
        for (int unit : new int[] {128, 55295, 57344, 65535}) e.isOf(unit, "" + (char) unit, x -> x.sign(0, 0));
    }

    private static void brokenUnits() {
        e.says("A BROKEN one is a UNIT of 55296 .. 57343 that is so alone");
        String[] broken = {"\ud800", "\udbff", "\udc00", "\udfff", "a\ud800", "\ud800a", "a\udc00", "\udc00a", "\ud800\ud7ff",
            "\ud800\ue000", "\ud800\udbff", "\udc00\ud800", "\udbff\ud800\udc00", "\ud800\udc00\udc00", "\udfff\udfff", "\udc00\udc00", "\ud800\ud800"};
        for (String line : broken) e.refusesOf(BROKEN, line, x -> x.words());
        e.is(BROKEN, "the 120th", x -> {
            full(x, 119);
            x.feed(0xd800, 1);
            return x.words();
        });
    }

    private static void foldedSigns() {
        e.says("FOLDED: a SIGN that has a FOLD (30 at most) becomes the one or two SIGNS told");
        e.given(x -> {
            x.fold('Q', 'k', 'w');
            x.fold('k', 'Z', -1);
            x.fold('-', ',', -1);
            x.fold(',', 'x', -1);
        });
        e.folds("aQa", "akwa");
        e.folds("aqKa", "aqka");
        e.folds("aka", "a a");
        e.folds("a-a", "a, a");
        e.folds("a,a", "axa");
        e.given(x -> {
            Check.feed(x, "aqa");
            x.words();
            x.fold('q', 'k', -1);
        });
        e.is('k', "a FOLD that comes behind words()", x -> x.sign(0, 1));
        e.given(x -> manyFolds(x, 30));
        e.folds("\u00c8\u00e5", "xx");
        e.says("else 65 .. 90 becomes 32 more");
        e.folds("AZ", "az");
        e.folds("@A[Z", "a z");
        e.says("else it stays");
        e.folds("az09", "az09");
        e.folds("\u00c0\u00de\u0391", "\u00c0\u00de\u0391");
    }

    private static void wordsOfTheLine() {
        e.terms("WORDS of THE LINE are");
        e.says("WORDS of THE LINE are the longest rows of FOLDED SIGNS of 97 .. 122, 48 .. 57, 128 and above");
        e.folds("a\u0060z", "a z");
        e.folds("a{z", "a z");
        e.folds("0/9", "0 9");
        e.folds("0:9", "0 9");
        e.folds("a\u007f\u0080", "a \u0080");
        e.folds("az09\u0080\ud7ff\ue000\uffff\ud800\udc00", "az09\u0080\ud7ff\ue000\uffff\ud800\udc00");
        e.says("others stand between WORDS");
        e.folds("..a  b\0c..", "a b c");
        e.says("where one of these is 44 there is a BREAK ahead of the next WORD (not ahead of the first)");
        e.folds("a,b", "a, b");
        e.folds("a+b-c", "a b c");
        e.folds(",a,b,", "a, b");
        e.folds("a b , c", "a b, c");
        e.folds("a , ,, b c", "a, b c");
        e.says("The first of these that fits: BROKEN; LONG");
        e.refusesOf(BROKEN, "\ud800 " + SIXTEEN + "q", x -> x.words());
        e.refusesOf(BROKEN, SIXTEEN + "q \udc00", x -> x.words());
        e.refusesOf(BROKEN, FOURTEEN + " o \udc00", x -> x.words());
        e.refusesOf(BROKEN, " \udc00 ", x -> x.words());
        e.says("a WORD of more than 16 SIGNS");
        e.isOf(1, SIXTEEN, x -> x.words());
        e.refusesOf(LONG, SIXTEEN + "q", x -> x.words());
        e.refusesOf(LONG, "a " + SIXTEEN + "q b", x -> x.words());
        e.isOf(1, Check.times("\ud83d\ude00", 16), x -> x.words());
        e.refusesOf(LONG, Check.times("\ud83d\ude00", 17), x -> x.words());
        e.given(x -> x.fold('q', 'k', 'w'));
        e.isOf(1, "qqqqqqqq", x -> x.words());
        e.refusesOf(LONG, "qqqqqqqqa", x -> x.words());
        e.refusesOf(LONG, SIXTEEN.substring(1) + "q", x -> x.words());
        e.given(x -> x.fold('q', ' ', -1));
        e.isOf(2, SIXTEEN + "qa", x -> x.words());
        e.says("more than 14 WORDS");
        e.isOf(14, FOURTEEN, x -> x.words());
        e.isOf(14, " ," + FOURTEEN + ", ", x -> x.words());
        e.refusesOf(LONG, FOURTEEN + ",o", x -> x.words());
        e.refusesOf(LONG, Check.times("a ", 60), x -> x.words());
        e.says("EMPTY: no WORD");
        e.refusesOf(EMPTY, "", x -> x.words());
        e.refusesOf(EMPTY, "\0/:@[`{\u007f", x -> x.words());
        e.given(x -> x.fold('q', 'Q', -1));
        e.refusesOf(EMPTY, "q", x -> x.words());
    }

    private static void calls() {
        e.terms("An object is used for at most 512 calls");
        e.says("An object is used for at most 512 calls after it has been made; what later calls answer is free.");
        e.is(120, "the 512th", x -> {
            long answer = 0;
            for (int i = 0; i < 512; i++) answer = i % 128 == 127 ? x.drop() : x.feed('a', 1);
            return answer;
        });
        e.is(509, "the 512th, behind 509 times READ", x -> {
            x.grammar(1, 0, 0);
            x.feed('3', 1);
            for (int i = 0; i < 509; i++) x.read(0);
            return x.of(0, 12);
        });
    }
}
