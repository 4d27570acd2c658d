import java.util.Arrays;

/** The boundary cases of promises 7 to 14, and of what Terms says of the book. */
public final class BookEdgesTest {
    private static final int BAD = PostalLines.BAD, BROKEN = PostalLines.BROKEN, LONG = PostalLines.LONG;
    private static final int EMPTY = PostalLines.EMPTY, KIND = PostalLines.KIND, TWICE = PostalLines.TWICE;
    private static final int FULL = PostalLines.FULL, NONE = PostalLines.NONE;
    private static final int LEAST = Integer.MIN_VALUE, MOST = Integer.MAX_VALUE;
    private static final int NUMBER = 0, STREET = 1, UNIT = 2, TOWN = 3, CODE = 4;
    private static final int[] NO_NAMES = {-1, 5, 6, 60, LEAST, MOST};
    private static final String SIXTEEN = "abcdefghijklmnop";
    private static final Edges e = new Edges("BookEdgesTest");

    public static void main(String[] args) {
        name();
        shorten();
        street();
        also();
        town();
        unit();
        range();
        grammar();
        grammarRefused();
        namesAndShorts();
        sameNames();
        shortNames();
        places();
        townsAndCodes();
        namesOfSeveral();
        sidesAndCarriers();
        refusals();
        e.end();
    }

    /** NAMES 0 main street, 1 st, 2 street, 3 apt, 4 saint anna; two STREETS 0 and 1, a TOWN, a GRAMMAR, a READING. */
    private static void fiveNames(PostalLines x) {
        for (String name : new String[] {"main street", "st", "street", "apt", "saint anna"}) Check.name(x, name);
        x.street(0);
        x.street(4);
        x.town(2, 10, 20);
        Check.grammar(x, 0, NUMBER, STREET, UNIT, TOWN, CODE);
        Check.read(x, "7 main street apt 3 street 00015");
    }

    private static void name() {
        e.promise(7);
        e.says("THE LINE's WORDS are a NAME");
        e.isOf(0, "a", x -> x.name());
        e.isOf(0, "a b c d", x -> x.name());
        e.isOf(0, SIXTEEN + " " + SIXTEEN + " " + SIXTEEN + " " + SIXTEEN, x -> x.name());
        e.given(x -> {
            Check.feed(x, "a b c d");
            x.street(x.name());
        });
        e.isOf(0, "a b c d", x -> x.fits(0, 0));
        e.isOf(NONE, "a b c", x -> x.fits(0, 0));
        e.isOf(NONE, "a b c e", x -> x.fits(0, 0));
        e.says("(THE LINE stays)");
        e.isOf(4, "Ab,c", x -> x.name() == 0 ? x.count(0) : BAD);
        e.isOf('A', "Ab,c", x -> x.name() == 0 ? x.unitAt(0) : BAD);
        e.isOf(1, "Ab,c", x -> x.name() == 0 ? x.sign(1, -2) : BAD);
        e.says("its number");
        e.given(x -> Check.names(x, 59));
        e.isOf(59, "a", x -> x.name());
        e.isOf(0, "\u00c8", x -> x.name());
        e.isOf(58, "\u0102", x -> x.name());
        e.says("BROKEN");
        e.given(BookEdgesTest::fiveNames);
        e.refusesOf(BROKEN, "a \ud800", x -> x.name());
        e.refusesOf(BROKEN, "a b c d e \ud800", x -> x.name());
        e.refusesOf(BROKEN, "\udc00", x -> x.name());
        e.says("LONG: also more than 4 WORDS");
        e.given(BookEdgesTest::fiveNames);
        e.refusesOf(LONG, "a b c d e", x -> x.name());
        e.refusesOf(LONG, "a b c d e f g h i j k l m n", x -> x.name());
        e.refusesOf(LONG, "a b c d e f g h i j k l m n o", x -> x.name());
        e.refusesOf(LONG, SIXTEEN + "q", x -> x.name());
        e.refusesOf(LONG, "a b c " + SIXTEEN + "q", x -> x.name());
        e.given(x -> Check.names(x, 60));
        e.refusesOf(LONG, "a b c d e", x -> x.name());
        e.says("EMPTY");
        e.given(BookEdgesTest::fiveNames);
        e.refusesOf(EMPTY, "", x -> x.name());
        e.refusesOf(EMPTY, " ,", x -> x.name());
        e.given(x -> Check.names(x, 60));
        e.refusesOf(EMPTY, ",", x -> x.name());
        e.says("FULL");
        e.given(x -> Check.names(x, 60));
        e.refusesOf(FULL, "a", x -> x.name());
        e.refusesOf(FULL, "\u00c8 \u00c9", x -> x.name());
        e.refusesOf(FULL, "a b c d", x -> x.name());
    }

    private static void shorten() {
        e.promise(8);
        e.says("NAME a is a SHORT of NAME b: 1");
        e.given(BookEdgesTest::fiveNames);
        e.is(1, "of one WORD", x -> x.shorten(1, 2));
        e.is(1, "of two WORDS", x -> x.shorten(1, 4));
        e.is(1, "the other way round", x -> x.shorten(1, 2) == 1 ? x.shorten(2, 1) : BAD);
        e.is(1, "two of one", x -> x.shorten(1, 2) == 1 ? x.shorten(3, 2) : BAD);
        e.is(1, "one of two", x -> x.shorten(1, 2) == 1 ? x.shorten(1, 4) : BAD);
        e.is(1, "the last one of the first one", x -> Check.name(x, "a") == 5 ? x.shorten(5, 0) : BAD);
        e.says("BAD: also a is b");
        e.given(BookEdgesTest::fiveNames);
        for (int no : NO_NAMES) {
            e.refuses(BAD, "shorten(" + no + ", 0)", x -> x.shorten(no, 0));
            e.refuses(BAD, "shorten(1, " + no + ")", x -> x.shorten(1, no));
            e.refuses(BAD, "shorten(" + no + ", " + no + ")", x -> x.shorten(no, no));
            e.refuses(BAD, "ahead of KIND: shorten(0, " + no + ")", x -> x.shorten(0, no));
        }
        for (int name : new int[] {0, 1, 2, 3, 4}) e.refuses(BAD, "itself, " + name, x -> x.shorten(name, name));
        e.given(x -> shorts(x, 30));
        e.refuses(BAD, "ahead of FULL: itself", x -> x.shorten(0, 0));
        e.refuses(BAD, "ahead of FULL: no NAME", x -> x.shorten(0, 33));
        e.says("KIND: a has more than one WORD");
        e.given(BookEdgesTest::fiveNames);
        e.refuses(KIND, "two WORDS", x -> x.shorten(0, 1));
        e.refuses(KIND, "two WORDS of two", x -> x.shorten(0, 4));
        e.given(x -> {
            Check.name(x, "a b c d");
            Check.name(x, "a");
        });
        e.refuses(KIND, "four WORDS", x -> x.shorten(0, 1));
        e.given(x -> shorts(x, 30));
        e.refuses(KIND, "ahead of FULL", x -> x.shorten(32, 0));
        e.says("TWICE: it is so already");
        e.given(x -> {
            fiveNames(x);
            x.shorten(1, 2);
            x.shorten(1, 4);
        });
        e.refuses(TWICE, "the first", x -> x.shorten(1, 2));
        e.refuses(TWICE, "the last", x -> x.shorten(1, 4));
        e.is(1, "turned round it is not so", x -> x.shorten(2, 1));
        e.given(x -> shorts(x, 30));
        e.refuses(TWICE, "ahead of FULL: the first", x -> x.shorten(0, 1));
        e.refuses(TWICE, "ahead of FULL: the last", x -> x.shorten(0, 30));
        e.says("FULL");
        e.given(x -> shorts(x, 30));
        e.refuses(FULL, "a 31st", x -> x.shorten(0, 31));
        e.refuses(FULL, "a 31st of two WORDS", x -> x.shorten(1, 32));
        e.given(x -> shorts(x, 29));
        e.is(1, "a 30th", x -> x.shorten(0, 31));
    }

    /** 32 NAMES of one WORD and NAME 32 of two; NAME 0 is so many SHORTS. */
    private static void shorts(PostalLines x, int n) {
        Check.names(x, 32);
        Check.name(x, "a b");
        for (int i = 1; i <= n; i++) x.shorten(0, i);
    }

    private static void street() {
        e.promise(9);
        e.says("A STREET: its number");
        e.given(x -> Check.names(x, 60));
        e.is(0, "of the first NAME", x -> x.street(0));
        e.is(0, "of the last NAME", x -> x.street(59));
        e.is(1, "of the same NAME", x -> x.street(0) == 0 ? x.street(0) : BAD);
        e.given(x -> streets(x, 29));
        e.is(29, "a 30th", x -> x.street(0));
        e.says("BAD");
        e.given(BookEdgesTest::fiveNames);
        for (int no : NO_NAMES) e.refuses(BAD, "street(" + no + ")", x -> x.street(no));
        e.given(x -> streets(x, 30));
        e.refuses(BAD, "ahead of FULL", x -> x.street(2));
        e.says("FULL");
        e.given(x -> streets(x, 30));
        e.refuses(FULL, "a 31st", x -> x.street(0));
        e.refuses(FULL, "a 31st of another NAME", x -> x.street(1));
    }

    private static void streets(PostalLines x, int n) {
        Check.names(x, 2);
        for (int i = 0; i < n; i++) x.street(i % 2);
    }

    private static void also() {
        e.promise(10);
        e.says("One more NAME of a STREET: how many");
        e.given(BookEdgesTest::fiveNames);
        e.is(2, "a second", x -> x.also(0, 1));
        e.is(3, "a third", x -> x.also(0, 1) == 2 ? x.also(0, 2) : BAD);
        e.is(2, "of the last STREET", x -> x.also(1, 1));
        e.is(2, "one that another STREET has", x -> x.also(0, 4));
        e.given(x -> {
            fiveNames(x);
            x.also(0, 1);
            x.also(0, 2);
        });
        e.is(4, "a fourth", x -> x.also(0, 3));
        e.given(x -> {
            fiveNames(x);
            for (int name = 1; name <= 3; name++) x.also(0, name);
        });
        for (String line : new String[] {"main street", "st", "street", "apt"}) e.isOf(0, line, x -> x.fits(0, 0));
        e.isOf(NONE, "saint anna", x -> x.fits(0, 0));
        e.isOf(0, "saint anna", x -> x.fits(0, 1));
        e.isOf(NONE, "apt", x -> x.fits(0, 1));
        e.says("BAD");
        e.given(BookEdgesTest::fiveNames);
        for (int no : new int[] {-1, 2, 3, 30, LEAST, MOST}) e.refuses(BAD, "also(" + no + ", 1)", x -> x.also(no, 1));
        for (int no : NO_NAMES) e.refuses(BAD, "also(0, " + no + ")", x -> x.also(0, no));
        e.given(x -> {
            fiveNames(x);
            for (int name = 1; name <= 3; name++) x.also(0, name);
        });
        e.refuses(BAD, "ahead of FULL", x -> x.also(0, 5));
        e.refuses(BAD, "ahead of TWICE", x -> x.also(2, 0));
        e.says("TWICE");
        e.given(x -> {
            fiveNames(x);
            x.also(0, 1);
        });
        e.refuses(TWICE, "its first", x -> x.also(0, 0));
        e.refuses(TWICE, "its second", x -> x.also(0, 1));
        e.given(x -> {
            fiveNames(x);
            for (int name = 1; name <= 3; name++) x.also(0, name);
        });
        e.refuses(TWICE, "ahead of FULL: its first", x -> x.also(0, 0));
        e.refuses(TWICE, "ahead of FULL: its fourth", x -> x.also(0, 3));
        e.says("FULL: 4");
        e.given(x -> {
            fiveNames(x);
            for (int name = 1; name <= 3; name++) x.also(0, name);
        });
        e.refuses(FULL, "a fifth", x -> x.also(0, 4));
        e.is(2, "of another STREET", x -> x.also(1, 0));
    }

    private static void town() {
        e.promise(11);
        e.says("A TOWN: its number");
        e.given(x -> Check.names(x, 60));
        e.is(0, "all CODES", x -> x.town(0, 0, 99999));
        e.is(0, "the least CODE", x -> x.town(59, 0, 0));
        e.is(0, "the highest CODE", x -> x.town(59, 99999, 99999));
        e.is(1, "the same again", x -> x.town(0, 5, 6) == 0 ? x.town(0, 5, 6) : BAD);
        e.given(x -> towns(x, 19));
        e.is(19, "a 20th", x -> x.town(0, 1, 2));
        e.says("BAD: also low above high");
        e.given(BookEdgesTest::fiveNames);
        for (int no : NO_NAMES) e.refuses(BAD, "town(" + no + ", 0, 0)", x -> x.town(no, 0, 0));
        int[][] spans = {{-1, 5}, {-1, -1}, {0, 100000}, {100000, 100000}, {1, 0}, {99999, 99998}, {99999, 0}, {0, -1},
            {LEAST, 0}, {0, MOST}, {LEAST, MOST}, {MOST, LEAST}, {MOST, MOST}, {0, LEAST}};
        for (int[] s : spans) e.refuses(BAD, "town(0, " + s[0] + ", " + s[1] + ")", x -> x.town(0, s[0], s[1]));
        e.given(x -> towns(x, 20));
        e.refuses(BAD, "ahead of FULL: CODES", x -> x.town(0, 2, 1));
        e.refuses(BAD, "ahead of FULL: the NAME", x -> x.town(1, 1, 2));
        e.says("FULL");
        e.given(x -> towns(x, 20));
        e.refuses(FULL, "a 21st", x -> x.town(0, 1, 2));
    }

    private static void towns(PostalLines x, int n) {
        Check.names(x, 1);
        for (int i = 0; i < n; i++) x.town(0, i, i);
    }

    private static void unit() {
        e.promise(12);
        e.says("A NAME is a UNIT WORD: how many there are");
        e.given(BookEdgesTest::fiveNames);
        e.is(1, "the first", x -> x.unit(3));
        e.is(2, "the second", x -> x.unit(3) == 1 ? x.unit(1) : BAD);
        e.given(x -> units(x, 9));
        e.is(10, "the tenth", x -> x.unit(59));
        e.says("BAD");
        e.given(BookEdgesTest::fiveNames);
        for (int no : NO_NAMES) e.refuses(BAD, "unit(" + no + ")", x -> x.unit(no));
        e.given(x -> units(x, 10));
        e.refuses(BAD, "ahead of FULL", x -> x.unit(60));
        e.says("KIND: it has more than one WORD");
        e.given(BookEdgesTest::fiveNames);
        e.refuses(KIND, "two WORDS", x -> x.unit(0));
        e.given(x -> Check.name(x, "a b c d"));
        e.refuses(KIND, "four WORDS", x -> x.unit(0));
        e.given(x -> units(x, 10));
        e.refuses(KIND, "ahead of FULL", x -> x.unit(58));
        e.says("TWICE");
        e.given(x -> units(x, 9));
        e.refuses(TWICE, "the first", x -> x.unit(0));
        e.refuses(TWICE, "the last", x -> x.unit(8));
        e.given(x -> units(x, 10));
        e.refuses(TWICE, "ahead of FULL: the first", x -> x.unit(0));
        e.refuses(TWICE, "ahead of FULL: the last", x -> x.unit(9));
        e.says("FULL");
        e.given(x -> units(x, 10));
        e.refuses(FULL, "an 11th", x -> x.unit(10));
        e.refuses(FULL, "an 11th, the last NAME", x -> x.unit(59));
    }

    /** 60 NAMES, 58 of two WORDS; so many UNIT WORDS. */
    private static void units(PostalLines x, int n) {
        Check.names(x, 58);
        Check.name(x, "a b");
        Check.name(x, "c");
        for (int i = 0; i < n; i++) x.unit(i);
    }

    private static void range() {
        e.promise(13);
        e.says("A RANGE: its number");
        e.given(BookEdgesTest::fiveNames);
        int[][] good = {{0, 0, 99999, 0, 0, 0}, {1, 0, 0, 1, 0, 999}, {0, 99999, 99999, 2, 0, 1}, {0, 7, 7, 0, 0, 998}};
        for (int[] r : good) e.is(0, label(r), x -> range(x, r));
        e.is(1, "the same again", x -> range(x, good[0]) == 0 ? range(x, good[0]) : BAD);
        e.given(x -> ranges(x, 59));
        e.is(59, "a 60th", x -> range(x, good[1]));
        e.says("BAD: also low above high");
        int[][] bad = {{-1, 0, 9, 0, 0, 0}, {2, 0, 9, 0, 0, 0}, {LEAST, 0, 9, 0, 0, 0}, {MOST, 0, 9, 0, 0, 0},
            {0, -1, 9, 0, 0, 0}, {0, LEAST, 9, 0, 0, 0}, {0, 0, 100000, 0, 0, 0}, {0, 0, MOST, 0, 0, 0},
            {0, 100000, 100000, 0, 0, 0}, {0, -1, -1, 0, 0, 0}, {0, 1, 0, 0, 0, 0}, {0, 99999, 99998, 0, 0, 0},
            {0, MOST, LEAST, 0, 0, 0}, {0, LEAST, MOST, 0, 0, 0}, {0, 0, 9, -1, 0, 0}, {0, 0, 9, 3, 0, 0},
            {0, 0, 9, LEAST, 0, 0}, {0, 0, 9, MOST, 0, 0}, {0, 0, 9, 0, -1, 0}, {0, 0, 9, 0, 1, 0},
            {0, 0, 9, 0, LEAST, 0}, {0, 0, 9, 0, MOST, 0}, {0, 0, 9, 0, 0, -1}, {0, 0, 9, 0, 0, 1000},
            {0, 0, 9, 0, 0, LEAST}, {0, 0, 9, 0, 0, MOST}};
        for (int[] r : bad) {
            e.given(BookEdgesTest::fiveNames);
            e.refuses(BAD, label(r), x -> range(x, r));
            e.given(x -> ranges(x, 60));
            e.is(BAD, "ahead of FULL: " + label(r), x -> range(x, r));
        }
        e.says("FULL");
        e.given(x -> ranges(x, 60));
        for (int[] r : good) e.refuses(FULL, "a 61st: " + label(r), x -> range(x, r));
    }

    private static String label(int[] r) {
        return "range" + Arrays.toString(r);
    }

    private static int range(PostalLines x, int[] r) {
        return x.range(r[0], r[1], r[2], r[3], r[4], r[5]);
    }

    private static void ranges(PostalLines x, int n) {
        fiveNames(x);
        for (int i = 0; i < n; i++) x.range(0, 8, 8, 0, 0, 5);
    }

    private static void grammar() {
        e.promise(14);
        e.says("A GRAMMAR of so many PARTS (1 .. 5)");
        for (int parts : new int[] {1, 2, 3, 4, 5}) {
            e.is(0, "so many PARTS: " + parts, x -> x.grammar(parts, Check.order(0, 1, 2, 3, 4), 0));
            e.given(x -> x.grammar(parts, Check.order(1, 2, 3, 4, 0), 0));
            e.reads("z", 4 + 3 * parts, "5");
            e.given(x -> { });
        }
        for (int parts : new int[] {0, -1, 6, 7, 32, 33, 37, LEAST, LEAST + 1, MOST}) {
            e.refuses(BAD, "so many PARTS: " + parts, x -> x.grammar(parts, Check.order(0, 1, 2, 3, 4), 0));
        }
        e.says("of them the first one is order modulo 8, the next one order / 8 modulo 8, ..");
        e.given(x -> {
            x.grammar(5, 4 + 8 * (3 + 8 * (2 + 8 * (1 + 8 * 0))), 0);
            Check.street(x, "main");
            Check.town(x, "ulm");
            Check.unit(x, "apt");
        });
        e.reads("12345 ulm apt 3 main 7", 0, "012234");
        e.given(x -> x.grammar(1, Check.order(0, 7), 0));
        e.reads("7", 0, "0");
        e.given(x -> x.grammar(2, Check.order(0, 4, 0, 4), 0));
        e.reads("7 12345", 0, "01");
        e.given(x -> x.grammar(1, MOST - 3, 0));
        e.reads("12345", 0, "0");
        e.says("that at place i MUST be, if bit i of must is 1: its number");
        for (int bit : new int[] {0, 1, 2, 3, 4}) {
            e.given(x -> x.grammar(5, Check.order(0, 1, 2, 3, 4), 1 << bit));
            e.isOf(NONE, "z", x -> x.read(0));
            e.given(x -> {
                x.grammar(5, Check.order(0, 1, 2, 3, 4), 31 - (1 << bit));
                Check.street(x, "main");
                Check.town(x, "ulm");
                Check.unit(x, "apt");
            });
            String[] parts = {"7 ", "main ", "apt 3 ", "ulm ", "12345"};
            String[] marks = {"0", "1", "22", "3", "4"};
            parts[bit] = "";
            marks[bit] = "";
            e.reads(String.join("", parts), 3, String.join("", marks));
        }
        e.given(x -> grammars(x, 7));
        e.is(7, "an 8th", x -> x.grammar(5, Check.order(0, 1, 2, 3, 4), 31));
        e.is(7, "an 8th like others", x -> x.grammar(1, 0, 1));
    }

    private static void grammarRefused() {
        e.says("BAD: order below 0");
        e.given(x -> { });
        for (int order : new int[] {-1, -8, -7, LEAST, LEAST + 1}) {
            e.refuses(BAD, "order " + order, x -> x.grammar(1, order, 0));
        }
        e.says("a PART that is none");
        for (int part : new int[] {5, 6, 7}) {
            e.refuses(BAD, "the first " + part, x -> x.grammar(1, part, 0));
            e.refuses(BAD, "the second " + part, x -> x.grammar(2, Check.order(0, part), 0));
            e.refuses(BAD, "the fifth " + part, x -> x.grammar(5, Check.order(0, 1, 2, 3, part), 0));
        }
        e.says("or twice");
        for (int part : new int[] {0, 1, 2, 3, 4}) {
            e.refuses(BAD, part + " twice", x -> x.grammar(2, Check.order(part, part), 0));
            int next = (part + 1) % 5;
            e.refuses(BAD, part + " twice, one between", x -> x.grammar(3, Check.order(part, next, part), 0));
        }
        e.refuses(BAD, "0 behind all", x -> x.grammar(5, Check.order(0, 1, 2, 3), 0));
        e.says("must");
        for (int parts : new int[] {1, 2, 3, 4, 5}) {
            int order = Check.order(0, 1, 2, 3, 4);
            e.is(0, "must of all " + parts, x -> x.grammar(parts, order, (1 << parts) - 1));
            e.refuses(BAD, "must of one behind " + parts, x -> x.grammar(parts, order, 1 << parts));
            for (int must : new int[] {-1, LEAST, MOST, 1 << 30, 32}) {
                e.refuses(BAD, "must " + must, x -> x.grammar(parts, order, must));
            }
        }
        e.says("FULL");
        e.given(x -> grammars(x, 8));
        e.refuses(FULL, "a 9th", x -> x.grammar(1, 0, 0));
        e.is(BAD, "BAD ahead of it: PARTS", x -> x.grammar(0, 0, 0));
        e.is(BAD, "BAD ahead of it: order", x -> x.grammar(1, 5, 0));
        e.is(BAD, "BAD ahead of it: must", x -> x.grammar(1, 0, 2));
    }

    private static void grammars(PostalLines x, int n) {
        for (int i = 0; i < n; i++) x.grammar(1, 0, 1);
    }

    private static void namesAndShorts() {
        e.terms("NAMES (60 at most)");
        e.says("NAMES (60 at most) are rows of 1 to 4 WORDS, numbered from 0 as they come");
        e.isOf(0, "a", x -> x.name());
        e.isOf(0, "a b c d", x -> x.name());
        e.refusesOf(LONG, "a b c d e", x -> x.name());
        e.given(x -> Check.names(x, 59));
        e.isOf(59, "a b c d", x -> x.name());
        e.given(x -> Check.names(x, 60));
        e.refusesOf(FULL, "a b c d", x -> x.name());
        e.given(x -> {
            for (int i = 0; i < 60; i++) {
                x.drop();
                x.feed(0x0061_0020_0062_0020L, 4);
                x.feed(0x0063_0020_0000_0000L + 200 + i, 4);
                x.name();
            }
        });
        e.is(60, "60 of 4 WORDS", x -> x.count(1));
        e.isOf(59, "a b c \u0103", x -> x.name());
        e.given(x -> {
            for (int i = 0; i < 60; i++) {
                x.drop();
                x.feed(0x00c8_0020_012c_0020L + i * 0x0001_0000_0001_0000L, 4);
                x.feed(0x0190_0020_01f4_0020L + i * 0x0001_0000_0001_0000L, 4);
                x.name();
            }
            x.street(59);
            x.street(0);
            Check.grammar(x, 1, STREET);
        });
        e.is(60, "60 of 4 other WORDS each", x -> x.count(1));
        e.reads(Check.times("y ", 10) + "\u0103 \u0167 \u01cb \u022f", 40, "55555555550000");
        e.reads("\u00c8 \u012c \u0190 \u01f4" + Check.times(" y", 10), 40, "00005555555555");
    }

    private static void sameNames() {
        e.says("the same WORDS are the same NAME");
        e.given(x -> {
            Check.name(x, "Ab c");
            Check.name(x, "d");
        });
        e.isOf(0, "aB, .C", x -> x.name());
        e.isOf(2, "c ab", x -> x.name());
        e.isOf(2, "ab", x -> x.name());
        e.isOf(2, "ab c d", x -> x.name());
        e.isOf(2, "abc", x -> x.name());
        e.isOf(2, "a bc", x -> x.name());
        e.given(x -> {
            Check.name(x, "a b c d");
            Check.name(x, "e");
            Check.name(x, "f g");
            Check.name(x, "c d a b");
        });
        e.isOf(1, "e", x -> x.name());
        e.isOf(2, "f g", x -> x.name());
        e.isOf(0, "a b c d", x -> x.name());
        e.isOf(4, "a b c", x -> x.name());
        e.given(x -> {
            Check.name(x, SIXTEEN + " q" + SIXTEEN.substring(1));
            x.street(0);
            Check.name(x, SIXTEEN.substring(1) + "q r");
        });
        e.isOf(0, SIXTEEN + " q" + SIXTEEN.substring(1), x -> x.name());
        e.isOf(0, SIXTEEN + " q" + SIXTEEN.substring(1), x -> x.fits(0, 0));
        e.isOf(1, SIXTEEN.substring(1) + "q r", x -> x.name());
        e.given(x -> Check.names(x, 60));
        e.isOf(0, "\u00c8", x -> x.name());
        e.isOf(59, "\u0103", x -> x.name());
        e.given(x -> {
            Check.name(x, "aq");
            x.fold('q', 'k', -1);
        });
        e.isOf(1, "aq", x -> x.name());
        e.isOf(1, "ak", x -> x.name());
    }

    private static void shortNames() {
        e.says("A SHORT (30 at most) is a NAME of one WORD that stands for a NAME (any other one)");
        e.given(x -> shorts(x, 29));
        e.is(1, "a 30th, of two WORDS", x -> x.shorten(31, 32));
        e.given(x -> shorts(x, 30));
        e.refuses(FULL, "a 31st", x -> x.shorten(31, 32));
        e.refuses(KIND, "of two WORDS", x -> x.shorten(32, 31));
        e.refuses(BAD, "itself", x -> x.shorten(31, 31));
    }

    private static void places() {
        e.terms("STREETS (30 at most)");
        e.says("STREETS (30 at most) have 1 to 4 NAMES, in the order in which they came");
        e.given(x -> streets(x, 30));
        e.is(30, "30", x -> x.count(3));
        e.refuses(FULL, "a 31st", x -> x.street(0));
        e.is(2, "the 30th has one", x -> x.also(29, 0));
        e.given(x -> {
            Check.grammar(x, 1, STREET);
            x.street(Check.name(x, "zz"));
            for (String name : new String[] {"aa", "bb", "cc"}) x.also(0, Check.name(x, name));
            Check.name(x, "dd");
        });
        e.writes("zz", "Zz");
        e.writes("cc", "Zz");
        e.refuses(FULL, "a fifth NAME", x -> x.also(0, 4));
        e.given(x -> {
            Check.names(x, 60);
            for (int i = 0; i < 30; i++) x.street(i);
            for (int i = 0; i < 30; i++) x.also(i, i + 30);
            for (int i = 0; i < 30; i++) x.also(i, (i + 1) % 30);
            for (int i = 0; i < 30; i++) x.also(i, (i + 1) % 30 + 30);
        });
        for (int street : new int[] {0, 8, 28, 29}) {
            int next = (street + 1) % 30;
            for (int name : new int[] {street, street + 30, next, next + 30}) {
                e.isOf(0, "" + (char) (200 + name), x -> x.fits(0, street));
            }
            e.isOf(NONE, "" + (char) (200 + (street + 2) % 30), x -> x.fits(0, street));
            e.refuses(FULL, "a fifth NAME of STREET " + street, x -> x.also(street, (street + 2) % 30));
        }
    }

    private static void townsAndCodes() {
        e.says("TOWNS (20 at most) one NAME, and CODES from low to high (0 .. 99999)");
        e.given(x -> towns(x, 20));
        e.is(20, "20", x -> x.count(4));
        e.refuses(FULL, "a 21st", x -> x.town(0, 0, 0));
        e.given(x -> Check.names(x, 1));
        e.is(0, "0 .. 99999", x -> x.town(0, 0, 99999));
        e.refuses(BAD, "-1 ..", x -> x.town(0, -1, 99999));
        e.refuses(BAD, ".. 100000", x -> x.town(0, 0, 100000));
        e.given(x -> {
            Check.names(x, 60);
            x.street(0);
            Check.grammar(x, 0, NUMBER, STREET, TOWN, CODE);
            for (int i = 0; i < 20; i++) {
                x.town(40 + i, 10 * i, 10 * i + 9);
                x.range(0, i, i, 0, i, i);
            }
        });
        for (int town : new int[] {0, 1, 18, 19}) {
            String name = " " + (char) (240 + town), codes = String.format(" %04d", town);
            e.isOf(0, name, x -> x.fits(1, town));
            e.isOf(town, town + " \u00c8" + name + codes + "0", x -> x.carrier(x.read(0)));
            e.isOf(town, town + " \u00c8" + name + codes + "9", x -> x.carrier(x.read(0)));
            e.isOf(NONE, town + " \u00c8" + name + String.format(" %05d", 10 * town + 10), x -> x.carrier(x.read(0)));
        }
    }

    private static void namesOfSeveral() {
        e.says("A NAME may be of several");
        e.given(x -> {
            Check.names(x, 2);
            x.street(0);
            x.street(0);
            x.town(0, 0, 0);
            x.town(0, 0, 0);
        });
        e.is(1, "and a UNIT WORD", x -> x.unit(0));
        e.is(1, "and a SHORT", x -> x.shorten(0, 1));
        e.is(2, "and of a STREET", x -> x.also(0, 1));
        e.is(2, "and of a STREET", x -> x.street(0));
        e.is(2, "and of a TOWN", x -> x.town(0, 0, 0));
        e.says("UNIT WORDS are NAMES of one WORD (10 at most)");
        e.given(x -> units(x, 10));
        e.is(10, "10", x -> x.count(5));
        e.refuses(FULL, "an 11th", x -> x.unit(10));
        e.refuses(KIND, "two WORDS", x -> x.unit(58));
    }

    private static void sidesAndCarriers() {
        e.says("RANGES (60 at most): a STREET, from low to high (0 .. 99999)");
        e.given(x -> ranges(x, 60));
        e.is(60, "60", x -> x.count(6));
        e.refuses(FULL, "a 61st", x -> x.range(0, 0, 0, 0, 0, 0));
        e.given(BookEdgesTest::fiveNames);
        e.is(0, "0 .. 99999", x -> x.range(1, 0, 99999, 0, 0, 0));
        e.refuses(BAD, "-1 ..", x -> x.range(1, -1, 99999, 0, 0, 0));
        e.refuses(BAD, ".. 100000", x -> x.range(1, 0, 100000, 0, 0, 0));
        e.says("a SIDE (0 all, 1 odd ones, 2 even ones)");
        e.refuses(BAD, "-1", x -> x.range(1, 0, 9, -1, 0, 0));
        e.refuses(BAD, "3", x -> x.range(1, 0, 9, 3, 0, 0));
        int[][] sides = {{0, 7, 5}, {0, 8, 5}, {1, 7, 5}, {1, 8, NONE}, {2, 7, NONE}, {2, 8, 5}, {1, 0, NONE}, {2, 0, 5}};
        for (int[] s : sides) {
            e.given(x -> {
                fiveNames(x);
                x.range(0, 0, 99999, s[0], 0, 5);
            });
            e.isOf(s[2], s[1] + " main street", x -> x.carrier(x.read(0)));
        }
        e.says("a TOWN, a CARRIER (0 .. 999)");
        for (int carrier : new int[] {0, 999}) {
            e.given(BookEdgesTest::fiveNames);
            e.is(carrier, "CARRIER " + carrier, x -> x.range(0, 0, 9, 0, 0, carrier) == 0 ? x.carrier(0) : BAD);
        }
        e.refuses(BAD, "-1", x -> x.range(1, 0, 9, 0, 0, -1));
        e.refuses(BAD, "1000", x -> x.range(1, 0, 9, 0, 0, 1000));
        e.refuses(BAD, "no TOWN", x -> x.range(1, 0, 9, 0, 1, 0));
    }

    private static void refusals() {
        e.terms("Refused, and nothing changes, the first that fits");
        e.says("Refused, and nothing changes, the first that fits: BAD");
        e.given(x -> shorts(x, 30));
        e.refuses(BAD, "ahead of KIND", x -> x.shorten(32, 32));
        e.refuses(BAD, "ahead of FULL", x -> x.shorten(31, 31));
        e.says("(no such NAME, STREET, TOWN, GRAMMAR, DELIVERY, number out of its bounds)");
        e.given(BookEdgesTest::fiveNames);
        e.refuses(BAD, "NAME", x -> x.street(5));
        e.refuses(BAD, "STREET", x -> x.also(2, 0));
        e.refuses(BAD, "TOWN", x -> x.fits(1, 1));
        e.refuses(BAD, "GRAMMAR", x -> x.read(1));
        e.refuses(BAD, "DELIVERY", x -> x.carrier(1));
        e.refuses(BAD, "number", x -> x.town(0, 0, 100000));
        e.refusesOf(BAD, "\ud800", x -> x.read(1));
        e.refusesOf(BAD, "\ud800", x -> x.fits(0, 2));
        e.says("BROKEN, LONG, EMPTY (of THE LINE)");
        e.given(BookEdgesTest::fiveNames);
        e.refusesOf(BROKEN, "\ud800 a b c d e f g h i j k l m n o", x -> x.name());
        e.refusesOf(BROKEN, "\ud800 a b c d e f g h i j k l m n o", x -> x.read(0));
        e.refusesOf(BROKEN, "\ud800 a b c d e f g h i j k l m n o", x -> x.fits(0, 0));
        e.refusesOf(BROKEN, "\ud800", x -> x.read(0));
        e.refusesOf(LONG, "a b c d e f g h i j k l m n o", x -> x.read(0));
        e.refusesOf(EMPTY, ".", x -> x.read(0));
        e.says("KIND (a NAME of other WORDS is wanted), TWICE, FULL.");
        e.given(x -> shorts(x, 30));
        e.refuses(KIND, "ahead of FULL", x -> x.shorten(32, 1));
        e.refuses(TWICE, "ahead of FULL", x -> x.shorten(0, 1));
        e.refuses(FULL, "the last", x -> x.shorten(0, 31));
    }
}
