/** The boundary cases of promises 15 to 18, and of what Terms says of PARTS and READINGS. */
public final class ReadingEdgesTest {
    private static final int NONE = PostalLines.NONE, BAD = PostalLines.BAD, BROKEN = PostalLines.BROKEN;
    private static final int LONG = PostalLines.LONG, EMPTY = PostalLines.EMPTY, FULL = PostalLines.FULL;
    private static final int LEAST = Integer.MIN_VALUE, MOST = Integer.MAX_VALUE;
    private static final int NUMBER = 0, STREET = 1, UNIT = 2, TOWN = 3, CODE = 4;
    private static final String SMILE = "\ud83d\ude00", SIXTEEN = "abcdefghijklmnop";
    private static final String FOURTEEN = "a b c d e f g h i j k l m n";
    private static final Edges e = new Edges("ReadingEdgesTest");

    public static void main(String[] args) {
        read();
        readNone();
        readRefused();
        cost();
        mark();
        fits();
        fitsNone();
        fitsRefused();
        parts();
        unitParts();
        townsAndCodes();
        grammars();
        readings();
        costs();
        names();
        shorts();
        slips();
        theReading();
        leastMarks();
        leastPlaces();
        e.end();
    }

    /** GRAMMAR 0 of parts, none of which MUST be; STREET main, TOWN ulm, UNIT WORD apt. */
    private static void book(PostalLines x, int... parts) {
        Check.grammar(x, 0, parts);
        Check.street(x, "main");
        Check.town(x, "ulm");
        Check.unit(x, "apt");
    }

    private static void all(PostalLines x) {
        book(x, NUMBER, STREET, UNIT, TOWN, CODE);
    }

    private static void must(PostalLines x, int part) {
        all(x);
        Check.grammar(x, 1, part);
    }

    /** 40 DELIVERIES, the NUMBERS 0 to 39. */
    private static void forty(PostalLines x) {
        Check.grammar(x, 1, NUMBER);
        for (int i = 0; i < 40; i++) Check.read(x, "" + i);
    }

    private static void read() {
        e.promise(15);
        e.says("THE LINE is READ by a GRAMMAR");
        e.given(x -> {
            for (int part = 0; part < 4; part++) Check.grammar(x, 0, part);
            for (int part = 0; part < 4; part++) Check.grammar(x, 1, CODE);
        });
        e.isOf(1, "1", x -> x.read(0) == 0 ? x.of(0, 0) : BAD);
        e.isOf(1, "12345", x -> x.read(7) == 0 ? x.of(0, 4) : BAD);
        e.isOf(NONE, "1", x -> x.read(7));
        e.given(ReadingEdgesTest::all);
        e.isOf(0, FOURTEEN, x -> x.read(0));
        e.isOf(0, SIXTEEN, x -> x.read(0));
        e.says("(it stays)");
        e.given(ReadingEdgesTest::all);
        e.isOf(6, "7 MaiN", x -> x.read(0) == 0 ? x.count(0) : BAD);
        e.isOf('N', "7 MaiN", x -> x.read(0) == 0 ? x.unitAt(5) : BAD);
        e.isOf(2, "7 MaiN", x -> x.read(0) == 0 ? x.words() : BAD);
        e.says("the DELIVERY");
        e.given(ReadingEdgesTest::all);
        e.isOf(0, "7", x -> x.read(0));
        e.given(x -> {
            all(x);
            Check.read(x, "7");
        });
        e.isOf(0, "007", x -> x.read(0));
        e.isOf(1, "8", x -> x.read(0));
        e.given(ReadingEdgesTest::forty);
        e.isOf(0, "0", x -> x.read(0));
        e.isOf(39, "39", x -> x.read(0));
    }

    private static void readNone() {
        e.says("NONE: there is no READING");
        e.given(x -> must(x, NUMBER));
        e.refusesOf(NONE, "main", x -> x.read(1));
        e.given(x -> must(x, STREET));
        e.refusesOf(NONE, "7", x -> x.read(1));
        e.given(x -> must(x, UNIT));
        e.refusesOf(NONE, "apt", x -> x.read(1));
        e.given(x -> must(x, TOWN));
        e.refusesOf(NONE, "main", x -> x.read(1));
        e.given(x -> must(x, CODE));
        e.refusesOf(NONE, "7", x -> x.read(1));
        e.given(x -> {
            all(x);
            Check.grammar(x, 3, NUMBER, STREET);
            Check.read(x, "x 7 main");
        });
        e.refusesOf(NONE, "main 7", x -> x.read(1));
        e.given(ReadingEdgesTest::forty);
        e.refusesOf(NONE, "x", x -> x.read(0));
    }

    private static void readRefused() {
        e.says("BAD");
        e.given(ReadingEdgesTest::all);
        for (int no : new int[] {-1, 1, 7, 8, LEAST, MOST}) {
            e.refusesOf(BAD, "7", x -> x.read(no));
            e.refusesOf(BAD, "\ud800", x -> x.read(no));
            e.refusesOf(BAD, FOURTEEN + " o", x -> x.read(no));
            e.refusesOf(BAD, "", x -> x.read(no));
        }
        e.given(ReadingEdgesTest::forty);
        e.refusesOf(BAD, "41", x -> x.read(1));
        e.says("BROKEN");
        e.given(ReadingEdgesTest::forty);
        e.refusesOf(BROKEN, "7 \ud800", x -> x.read(0));
        e.refusesOf(BROKEN, FOURTEEN + " o \udfff", x -> x.read(0));
        e.refusesOf(BROKEN, "\udc00", x -> x.read(0));
        e.says("LONG");
        e.given(ReadingEdgesTest::forty);
        e.refusesOf(LONG, FOURTEEN + " 7", x -> x.read(0));
        e.refusesOf(LONG, "7 " + SIXTEEN + "q", x -> x.read(0));
        e.says("EMPTY");
        e.given(ReadingEdgesTest::forty);
        e.refusesOf(EMPTY, "", x -> x.read(0));
        e.refusesOf(EMPTY, ", .", x -> x.read(0));
        e.says("FULL: it would be a 41st DELIVERY");
        e.given(ReadingEdgesTest::forty);
        e.refusesOf(FULL, "40", x -> x.read(0));
        e.refusesOf(FULL, "39a x", x -> x.read(0));
        e.isOf(2, "7 x", x -> x.read(0) == 7 ? x.of(7, 12) : BAD);
        e.isOf(4, "7 x", x -> x.read(0) == 7 ? x.cost() : BAD);
        e.given(x -> {
            Check.grammar(x, 1, NUMBER);
            for (int i = 0; i < 39; i++) Check.read(x, "" + i);
        });
        e.isOf(39, "40", x -> x.read(0));
    }

    private static void cost() {
        e.promise(16);
        e.says("The COST of the latest READING that there was");
        e.given(x -> {
            must(x, NUMBER);
            Check.read(x, "x y 7 main");
        });
        int cost = 4 + 4 + 3 * 3;
        e.is(cost, "cost()", x -> x.cost());
        e.is(cost, "THE LINE gone", x -> x.drop() > 0 ? x.cost() : BAD);
        e.isOf(cost, "a", x -> x.read(1) == NONE ? x.cost() : BAD);
        e.isOf(cost, "a", x -> x.read(2) == BAD ? x.cost() : BAD);
        e.isOf(cost, "", x -> x.read(0) == EMPTY ? x.cost() : BAD);
        e.isOf(cost, "\ud800", x -> x.read(0) == BROKEN ? x.cost() : BAD);
        e.isOf(cost, SIXTEEN + "q", x -> x.read(0) == LONG ? x.cost() : BAD);
        e.isOf(cost, "main", x -> x.fits(0, 0) == 0 ? x.cost() : BAD);
        e.isOf(0, "7", x -> x.read(1) >= 0 ? x.cost() : BAD);
        e.isOf(14 * 4 + 5 * 3, FOURTEEN, x -> x.read(0) >= 0 ? x.cost() : BAD);
        e.given(ReadingEdgesTest::forty);
        e.isOf(0, "40 x", x -> x.read(0) == FULL ? x.cost() : BAD);
        e.says("(0 without any)");
        e.is(0, "new", x -> x.cost());
        e.given(x -> must(x, NUMBER));
        e.isOf(0, "x", x -> x.read(1) == NONE ? x.cost() : BAD);
        e.isOf(0, "", x -> x.read(0) == EMPTY ? x.cost() : BAD);
        e.isOf(0, "main x", x -> x.fits(0, 0) == NONE ? x.cost() : BAD);
    }

    private static void mark() {
        e.promise(17);
        e.says("The mark of WORD k in it: 0 .. 4 the place of its PART, 5 LEFT");
        e.given(ReadingEdgesTest::all);
        e.reads("x 7 main apt 3 ulm 12345 y", 8, "50122345");
        e.reads(FOURTEEN, 71, "55555555555555");
        e.given(x -> book(x, CODE, TOWN, UNIT, STREET, NUMBER));
        e.reads("12345 ulm apt 3 main 7", 0, "012234");
        e.reads("12345", 12, "0");
        e.reads("7", 12, "4");
        e.given(x -> {
            must(x, NUMBER);
            Check.read(x, "x 7");
        });
        e.is(0, "THE LINE gone", x -> x.drop() > 0 ? x.mark(1) : BAD);
        e.isOf(5, "a", x -> x.read(1) == NONE ? x.mark(0) : BAD);
        e.isOf(0, "a", x -> x.read(2) == BAD ? x.mark(1) : BAD);
        e.isOf(0, "", x -> x.read(0) == EMPTY ? x.mark(1) : BAD);
        e.isOf(5, "main", x -> x.fits(0, 0) == 0 ? x.mark(0) : BAD);
        e.given(ReadingEdgesTest::forty);
        e.isOf(NONE, "40 x", x -> x.read(0) == FULL ? x.mark(1) : BAD);
        e.says("NONE");
        e.given(x -> { });
        for (int k : new int[] {-1, 0, 13, 14, LEAST, MOST}) e.is(NONE, "new: mark(" + k + ")", x -> x.mark(k));
        e.given(x -> {
            all(x);
            Check.read(x, "x 7 main");
        });
        for (int k : new int[] {-1, 3, 4, 13, 14, 21, LEAST, MOST}) e.is(NONE, "mark(" + k + ") of 3", x -> x.mark(k));
        e.given(x -> {
            all(x);
            Check.read(x, FOURTEEN);
        });
        e.is(5, "mark(13) of 14", x -> x.mark(13));
        for (int k : new int[] {-1, 14, 15, 16, 20, 21}) e.is(NONE, "mark(" + k + ") of 14", x -> x.mark(k));
        e.isOf(NONE, "7", x -> x.read(0) >= 0 ? x.mark(1) : BAD);
    }

    private static void fits() {
        e.promise(18);
        e.says("The least COST of a STREET (way 0), TOWN (1) as a row of all WORDS of THE LINE");
        e.given(x -> {
            Check.street(x, "anna strasse");
            x.also(0, Check.name(x, "annas"));
            Check.town(x, "ulm");
            Check.shorten(x, "str", "strasse");
            Check.shorten(x, "as", "anna strasse");
        });
        e.isOf(0, "anna strasse", x -> x.fits(0, 0));
        e.isOf(3, "ana strasse", x -> x.fits(0, 0));
        e.isOf(1, "anna str", x -> x.fits(0, 0));
        e.isOf(4, "ana str", x -> x.fits(0, 0));
        e.isOf(6, "ana strase", x -> x.fits(0, 0));
        e.isOf(1, "as", x -> x.fits(0, 0));
        e.isOf(3, "anna", x -> x.fits(0, 0));
        e.isOf(0, "annas", x -> x.fits(0, 0));
        e.isOf(0, "ulm", x -> x.fits(1, 0));
        e.says("(BREAKS do not count)");
        e.given(x -> Check.street(x, "a b c d"));
        e.isOf(0, "a, b, c, d", x -> x.fits(0, 0));
        e.says("that of a number");
        e.given(x -> {
            Check.street(x, "main");
            Check.street(x, "mains");
            Check.town(x, "mains");
            Check.town(x, "main");
        });
        e.isOf(0, "main", x -> x.fits(0, 0));
        e.isOf(3, "main", x -> x.fits(0, 1));
        e.isOf(3, "main", x -> x.fits(1, 0));
        e.isOf(0, "main", x -> x.fits(1, 1));
    }

    private static void fitsNone() {
        e.says("NONE: it does not fit");
        e.given(x -> {
            Check.street(x, "anna strasse");
            Check.town(x, "ulm");
        });
        String[] none = {"anna", "strasse", "strasse anna", "x anna strasse", "anna strasse x", "anna x strasse", "annastrasse",
            "ulm", FOURTEEN, "an strasse", "anna strass s"};
        for (String line : none) e.refusesOf(NONE, line, x -> x.fits(0, 0));
        for (String line : new String[] {"ul", "ulms", "ulm ulm", "anna strasse"}) e.refusesOf(NONE, line, x -> x.fits(1, 0));
    }

    private static void fitsRefused() {
        e.says("BAD");
        e.given(x -> {
            Check.street(x, "main");
            Check.town(x, "ulm");
            Check.town(x, "ulm");
        });
        for (int way : new int[] {-1, 2, 3, LEAST, MOST}) e.refuses(BAD, "way " + way, x -> x.fits(way, 0));
        for (int no : new int[] {-1, 1, 2, 30, LEAST, MOST}) e.refuses(BAD, "STREET " + no, x -> x.fits(0, no));
        for (int no : new int[] {-1, 2, 20, LEAST, MOST}) e.refuses(BAD, "TOWN " + no, x -> x.fits(1, no));
        for (String line : new String[] {"", "\ud800", FOURTEEN + " o"}) {
            e.refusesOf(BAD, line, x -> x.fits(2, 0));
            e.refusesOf(BAD, line, x -> x.fits(0, 1));
            e.refusesOf(BAD, line, x -> x.fits(1, 2));
        }
        e.says("BROKEN");
        e.given(ReadingEdgesTest::all);
        e.refusesOf(BROKEN, "main \ud800", x -> x.fits(0, 0));
        e.refusesOf(BROKEN, FOURTEEN + " o \udc00", x -> x.fits(1, 0));
        e.refusesOf(BROKEN, "\udc00", x -> x.fits(1, 0));
        e.says("LONG");
        e.given(ReadingEdgesTest::all);
        e.refusesOf(LONG, FOURTEEN + " o", x -> x.fits(0, 0));
        e.refusesOf(LONG, SIXTEEN + "q", x -> x.fits(1, 0));
        e.says("EMPTY");
        e.given(ReadingEdgesTest::all);
        e.refusesOf(EMPTY, "", x -> x.fits(0, 0));
        e.refusesOf(EMPTY, ",", x -> x.fits(1, 0));
    }

    private static void parts() {
        e.terms("PARTS of a line");
        e.says("PARTS of a line: 0 NUMBER: a WORD of 1 to 5 figures (48 .. 57)");
        e.given(x -> Check.grammar(x, 1, NUMBER));
        int[] numbers = {0, 9, 10, 99999};
        for (int n : numbers) e.isOf(n, "" + n, x -> x.read(0) == 0 ? x.of(0, 5) : BAD);
        e.isOf(0, "00000", x -> x.read(0) == 0 ? x.of(0, 5) : BAD);
        for (String line : new String[] {"123456", "000000", "/", "a", "\u0663", "1234567890123456"}) {
            e.isOf(line.equals("/") ? EMPTY : NONE, line, x -> x.read(0));
        }
        e.says("perhaps with one of 97 .. 122 behind");
        e.given(x -> Check.grammar(x, 1, NUMBER));
        e.isOf('a', "1a", x -> x.read(0) == 0 ? x.of(0, 6) : BAD);
        e.isOf('z', "99999Z", x -> x.read(0) == 0 ? x.of(0, 6) : BAD);
        for (String line : new String[] {"1ab", "a1", "1a1", "1\u0080", "123456a", "1 ", "12345ab", "1a\u0080"}) {
            e.isOf(line.equals("1 ") ? 0 : NONE, line, x -> x.read(0));
        }
        e.says("1 STREET: a row of WORDS");
        e.given(x -> {
            Check.grammar(x, 1, STREET);
            Check.street(x, "a");
            Check.street(x, "a b c d");
        });
        e.reads("a", 0, "0");
        e.reads("a b c d", 0, "0000");
        e.given(x -> {
            Check.names(x, 9);
            Check.grammar(x, 1, STREET);
            x.street(1);
            x.street(2);
            for (int name = 3; name <= 5; name++) x.also(1, name);
            x.street(6);
            x.street(7);
        });
        for (int name : new int[] {0, 8}) e.isOf(NONE, "" + (char) (200 + name), x -> x.read(0));
        int[] streets = {0, 1, 1, 1, 1, 2, 3};
        for (int name = 1; name <= 7; name++) {
            int street = streets[name - 1];
            e.isOf(street, "" + (char) (200 + name), x -> x.read(0) == 0 ? x.of(0, 7) : BAD);
        }
    }

    private static void unitParts() {
        e.says("2 UNIT: a WORD that is a UNIT WORD, and one of 1 to 4 SIGNS behind it");
        e.given(x -> {
            Check.grammar(x, 1, UNIT);
            Check.name(x, "nine");
            Check.unit(x, "flat");
            Check.shorten(x, "fl", "flat");
        });
        e.reads("flat a", 0, "00");
        e.reads("flat 1234", 0, "00");
        e.reads("flat " + Check.times(SMILE, 4), 0, "00");
        e.reads("flat flat x", 4, "005");
        e.reads("flat 12345 flat 1", 8, "5500");
        String[] none = {"flat", "flat 12345", "flat " + Check.times(SMILE, 5), "x flat", "flats 1", "fla 1", "fl 1", "nine 1",
            "1 flat", "flat1"};
        for (String line : none) e.isOf(NONE, line, x -> x.read(0));
        e.given(x -> {
            Check.grammar(x, 1, UNIT);
            Check.unit(x, "flat");
            for (int i = 2; i <= 10; i++) Check.unit(x, "u" + i);
        });
        e.reads("u10 x", 0, "00");
    }

    private static void townsAndCodes() {
        e.says("3 TOWN: a row of WORDS");
        e.given(x -> {
            Check.grammar(x, 1, TOWN);
            Check.town(x, "a");
            Check.town(x, "a b c d");
        });
        e.reads("a", 0, "0");
        e.reads("a b c d", 0, "0000");
        e.given(x -> {
            Check.names(x, 4);
            Check.grammar(x, 1, TOWN);
            x.town(1, 0, 0);
            x.town(2, 0, 0);
        });
        for (int name : new int[] {0, 3}) e.isOf(NONE, "" + (char) (200 + name), x -> x.read(0));
        for (int name : new int[] {1, 2}) {
            e.isOf(name - 1, "" + (char) (200 + name), x -> x.read(0) == 0 ? x.of(0, 10) : BAD);
        }
        e.says("4 CODE: a WORD of just 5 figures");
        e.given(x -> Check.grammar(x, 1, CODE));
        e.isOf(0, "00000", x -> x.read(0) == 0 ? x.of(0, 11) : BAD);
        e.isOf(99999, "99999", x -> x.read(0) == 0 ? x.of(0, 11) : BAD);
        for (String line : new String[] {"1234", "123456", "1234a", "12345a", "a2345", "12345\u0080", "1234 5"}) {
            e.isOf(NONE, line, x -> x.read(0));
        }
    }

    private static void grammars() {
        e.says("A GRAMMAR (8 at most) tells 1 to 5 PARTS, each once, in an order, and which of them MUST be");
        e.given(x -> {
            for (int i = 0; i < 8; i++) Check.grammar(x, i % 2, i % 5);
        });
        e.refuses(FULL, "a 9th", x -> x.grammar(1, 0, 0));
        e.isOf(NONE, "x", x -> x.read(7));
        e.isOf(0, "x", x -> x.read(6));
        e.given(x -> { });
        e.refuses(BAD, "no PART", x -> x.grammar(0, 0, 0));
        e.refuses(BAD, "6 PARTS", x -> x.grammar(6, Check.order(0, 1, 2, 3, 4), 0));
        e.refuses(BAD, "twice", x -> x.grammar(5, Check.order(4, 1, 2, 3, 4), 0));
    }

    private static void readings() {
        e.terms("A READING by a GRAMMAR");
        e.says("A READING by a GRAMMAR deals THE LINE's WORDS out");
        e.given(ReadingEdgesTest::all);
        e.reads("7 main apt 3 ulm 12345", 0, "012234");
        e.says("each PART of the GRAMMAR has a row of neighbouring WORDS that FITS it, or none (but if it MUST be)");
        e.given(x -> {
            Check.grammar(x, 0, STREET);
            Check.street(x, "a b");
        });
        e.reads("a b", 0, "00");
        e.reads("a x b", 15, "555");
        e.reads("a", 7, "5");
        e.given(x -> {
            Check.grammar(x, 1, STREET);
            Check.street(x, "a b");
        });
        e.isOf(NONE, "a x b", x -> x.read(0));
        e.given(x -> {
            Check.grammar(x, 2, STREET, NUMBER);
            Check.street(x, "7");
        });
        e.reads("7", 3, "1");
        e.given(x -> {
            Check.grammar(x, 0, STREET, NUMBER);
            Check.street(x, "7");
        });
        e.reads("7", 3, "0");
        e.says("rows come in the order of the PARTS");
        e.given(x -> book(x, TOWN, STREET, NUMBER));
        e.reads("ulm main 7", 0, "012");
        e.reads("7 main ulm", 14, "255");
        e.reads("main ulm 7", 7, "152");
        e.reads("main ulm", 10, "15");
        e.says("WORDS in no row are LEFT");
        e.given(ReadingEdgesTest::all);
        e.reads("x 7 x main x apt 3 x ulm x 12345 x", 24, "505152253545");
    }

    private static void costs() {
        e.says("It COSTS 4 for each LEFT one");
        e.given(x -> {
            Check.grammar(x, 1, NUMBER);
        });
        e.reads("7", 0, "0");
        e.reads("x 7", 4, "50");
        e.reads("7 a b c d e f g h i j k l m", 52, "05555555555555");
        e.reads("7, x, x", 8, "055");
        e.says("2 for each BREAK ahead of a WORD of a row that is not the row's first one");
        e.given(x -> {
            Check.grammar(x, 3, STREET, UNIT);
            Check.street(x, "a b c d");
            Check.unit(x, "apt");
        });
        e.reads("a b c d apt 3", 0, "000011");
        e.reads("x, a b c d, apt 3, y", 8, "50000115");
        e.reads("a, b c d apt 3", 2, "000011");
        e.reads("a b c, d apt 3", 2, "000011");
        e.reads("a b c d apt, 3", 2, "000011");
        e.reads("a,, b, c, d, apt, 3", 8, "000011");
        e.says("3 for each PART that has none");
        e.given(ReadingEdgesTest::all);
        e.reads("7 main apt 3 ulm 12345", 0, "012234");
        e.reads("7 main apt 3 ulm", 3, "01223");
        e.reads("7", 12, "0");
        e.reads("x", 19, "5");
        e.given(x -> Check.grammar(x, 0, NUMBER));
        e.reads("x", 7, "5");
        e.says("and what the rows cost: of NUMBER, UNIT, CODE 0");
        e.given(x -> book(x, NUMBER, UNIT, CODE));
        e.reads("7z apt abcd 12345", 0, "0112");
        e.says("of STREET, TOWN (a number of one) the least of its NAMES'");
        e.given(x -> {
            Check.grammar(x, 3, STREET, TOWN);
            Check.street(x, "anna");
            x.also(0, Check.name(x, "annab"));
            x.also(0, Check.name(x, "b"));
            x.also(0, Check.name(x, "annabel"));
            Check.town(x, "ulmen");
        });
        e.reads("anna ulmen", 0, "01");
        e.reads("annab ulmen", 0, "01");
        e.reads("annax ulmen", 3, "01");
        e.reads("annabel ulme", 3, "01");
        e.isOf(NONE, "anna anna", x -> x.read(0));
        e.given(x -> {
            Check.grammar(x, 3, STREET, TOWN);
            Check.street(x, "main");
            Check.town(x, "ulmen");
            Check.town(x, "ulme");
        });
        e.reads("main ulme", 0, "01");
        e.reads("main ulmen", 0, "01");
        e.reads("main ulm", 3, "01");
    }

    private static void names() {
        e.says("a NAME is gone through WORD by WORD, and the row, too: a WORD of the row that is LIKE the next one of the NAME: 0");
        e.given(x -> {
            Check.street(x, "a b c d");
            Check.street(x, "bb");
        });
        e.isOf(0, "A B C D", x -> x.fits(0, 0));
        e.isOf(0, "BB", x -> x.fits(0, 1));
        for (String line : new String[] {"b a c d", "a b d c", "a b c c", "a a b c d", "x b c d"}) {
            e.isOf(NONE, line, x -> x.fits(0, 0));
        }
        e.says("that has one SLIP: 3 (if the NAME's WORD has 4 SIGNS or more)");
        e.given(x -> {
            Check.street(x, "abc");
            Check.street(x, "abcd");
            Check.street(x, "abcd efgh ijkl mnop");
            Check.street(x, SIXTEEN);
        });
        for (String line : new String[] {"ab", "abx", "abcx", "xabc", "bc"}) e.isOf(NONE, line, x -> x.fits(0, 0));
        for (String line : new String[] {"abx", "abcdx", "abcx", "abc"}) {
            e.isOf(line.equals("abx") ? NONE : 3, line, x -> x.fits(0, 1));
        }
        e.isOf(12, "abc efg ijk mno", x -> x.fits(0, 2));
        e.isOf(NONE, "abc efg ijk mn", x -> x.fits(0, 2));
        e.isOf(3, SIXTEEN.substring(1), x -> x.fits(0, 3));
        e.isOf(3, SIXTEEN.substring(0, 15), x -> x.fits(0, 3));
        e.isOf(3, SIXTEEN.substring(0, 15) + "x", x -> x.fits(0, 3));
    }

    private static void shorts() {
        e.says("that is a SHORT of the NAME's next WORDS (all of those for which it stands): 1");
        e.given(x -> {
            Check.street(x, "saint anna main road");
            Check.shorten(x, "s", "saint");
            Check.shorten(x, "sa", "saint anna");
            Check.shorten(x, "sam", "saint anna main");
            Check.shorten(x, "samr", "saint anna main road");
            Check.shorten(x, "amr", "anna main road");
            Check.shorten(x, "r", "road");
            Check.shorten(x, "x", "road main");
            Check.shorten(x, "rr", "r");
        });
        e.isOf(1, "s anna main road", x -> x.fits(0, 0));
        e.isOf(1, "sa main road", x -> x.fits(0, 0));
        e.isOf(1, "sam road", x -> x.fits(0, 0));
        e.isOf(1, "samr", x -> x.fits(0, 0));
        e.isOf(1, "saint amr", x -> x.fits(0, 0));
        e.isOf(2, "s amr", x -> x.fits(0, 0));
        e.isOf(2, "sam r", x -> x.fits(0, 0));
        e.isOf(2, "s anna main r", x -> x.fits(0, 0));
        e.isOf(4, "s ann main road", x -> x.fits(0, 0));
        String[] none = {"sa anna main road", "sam main road", "saint anna x", "saint anna main rr", "samrs", "sam sam", "amr",
            "saint s main road", "anna amr"};
        for (String line : none) e.isOf(NONE, line, x -> x.fits(0, 0));
        e.given(x -> {
            Check.names(x, 31);
            for (int i = 1; i <= 29; i++) x.shorten(0, i);
            Check.shorten(x, "z", "last");
            x.street(Check.name(x, "last"));
            x.street(Check.name(x, "abcd"));
        });
        e.isOf(1, "z", x -> x.fits(0, 0));
        e.given(x -> {
            Check.street(x, "abcd");
            Check.shorten(x, "abc", "abcd");
            Check.street(x, "a a b");
            Check.shorten(x, "a", "a a");
        });
        e.isOf(1, "abc", x -> x.fits(0, 0));
        e.isOf(1, "a b", x -> x.fits(0, 1));
        e.isOf(0, "a a b", x -> x.fits(0, 1));
        e.says("both to their ends");
        e.given(x -> {
            Check.street(x, "a b c");
            Check.shorten(x, "cd", "c d");
        });
        for (String line : new String[] {"a", "a b", "a b c d", "a b c a b c", "b c", "a b cd"}) {
            e.isOf(NONE, line, x -> x.fits(0, 0));
        }
    }

    private static void slips() {
        e.given(x -> Check.street(x, "abcd"));
        e.says("A SLIP: one SIGN is another");
        e.given(x -> Check.street(x, "abcd"));
        for (String line : new String[] {"xbcd", "axcd", "abxd", "abcx", "ab9d", "ab" + SMILE + "d", "aacd", "abcc"}) {
            e.isOf(3, line, x -> x.fits(0, 0));
        }
        for (String line : new String[] {"xxcd", "axxd", "xbcx", "bacd", "abdc", "badc"}) {
            e.isOf(NONE, line, x -> x.fits(0, 0));
        }
        e.says("or one is lost");
        e.given(x -> Check.street(x, "abcd"));
        for (String line : new String[] {"bcd", "acd", "abd", "abc"}) e.isOf(3, line, x -> x.fits(0, 0));
        for (String line : new String[] {"ab", "cd", "ad", "a", "xcd", "abx", "bca"}) e.isOf(NONE, line, x -> x.fits(0, 0));
        e.given(x -> Check.street(x, "aaaa"));
        e.isOf(3, "aaa", x -> x.fits(0, 0));
        e.isOf(NONE, "aa", x -> x.fits(0, 0));
        e.says("or one is more");
        e.given(x -> Check.street(x, "abcd"));
        String[] more = {"xabcd", "axbcd", "abxcd", "abcxd", "abcdx", "aabcd", "abbcd", "abcdd", "abcd" + SMILE};
        for (String line : more) e.isOf(3, line, x -> x.fits(0, 0));
        for (String line : new String[] {"xabcdx", "abcdef", "xbcdx", "abxdc", "bcdea"}) {
            e.isOf(NONE, line, x -> x.fits(0, 0));
        }
        e.given(x -> Check.street(x, "aaaa"));
        e.isOf(3, "aaaaa", x -> x.fits(0, 0));
        e.isOf(NONE, "aaaaaa", x -> x.fits(0, 0));
    }

    private static void theReading() {
        e.terms("THE READING: that with the least COST");
        e.says("THE READING: that with the least COST");
        e.given(x -> {
            Check.grammar(x, 0, NUMBER, STREET, TOWN);
            Check.street(x, "7 a");
            Check.town(x, "b c d");
        });
        e.reads("7 a", 6, "11");
        e.reads("7 b, c, d", 7, "0222");
        e.reads("8 8 b c d", 7, "05222");
    }

    private static void leastMarks() {
        e.says("of several that of which the marks of WORDS, from the first on, are least");
        e.given(x -> Check.grammar(x, 0, NUMBER));
        e.reads("7 7", 4, "05");
        e.reads("x 7 7 7", 12, "5055");
        e.given(x -> {
            Check.grammar(x, 0, STREET, TOWN);
            for (String name : new String[] {"a", "a a"}) {
                Check.street(x, name);
                Check.town(x, name);
            }
        });
        e.reads("a", 3, "0");
        e.reads("a a", 0, "01");
        e.reads("a a a", 0, "001");
        e.reads("a a a a a a a a a a a a a a", 40, "00115555555555");
        e.given(x -> {
            Check.grammar(x, 0, STREET, TOWN);
            Check.street(x, "a");
            Check.street(x, "a, b");
            Check.town(x, "b");
            Check.town(x, "c");
        });
        e.reads("a b c", 0, "001");
        e.reads("b c", 7, "15");
        e.says("0 .. 4 the place of its PART in the GRAMMAR, 5 LEFT");
        e.given(x -> {
            Check.grammar(x, 0, CODE, NUMBER);
            Check.grammar(x, 0, NUMBER, CODE);
        });
        e.reads("12345", 3, "0");
        e.isOf(1, "12345", x -> x.read(1) == 0 ? x.of(0, 0) : BAD);
        e.isOf(1, "12345", x -> x.read(0) == 0 ? x.of(0, 4) : BAD);
        e.given(x -> book(x, CODE, TOWN, UNIT, NUMBER, STREET));
        e.reads("main 7 x", 20, "455");
    }

    private static void leastPlaces() {
        e.says("of several that with the least STREET");
        e.given(x -> {
            Check.grammar(x, 0, STREET, TOWN);
            for (String name : new String[] {"bert", "annas", "anna", "anna", "annab"}) Check.street(x, name);
            for (String name : new String[] {"bonn", "ulmen", "ulme", "ulme"}) Check.town(x, name);
        });
        e.isOf(2, "anna", x -> x.read(0) == 0 ? x.of(0, 7) : BAD);
        e.isOf(1, "annax", x -> x.read(0) == 0 ? x.of(0, 7) : BAD);
        e.isOf(4, "annab", x -> x.read(0) == 0 ? x.of(0, 7) : BAD);
        e.isOf(2, "anna ulm", x -> x.read(0) == 0 ? x.of(0, 7) : BAD);
        e.given(x -> {
            Check.grammar(x, 0, STREET);
            Check.names(x, 1);
            for (int i = 0; i < 30; i++) x.street(0);
        });
        e.isOf(0, "\u00c8", x -> x.read(0) == 0 ? x.of(0, 7) : BAD);
        e.says("then the least TOWN");
        e.given(x -> {
            Check.grammar(x, 0, STREET, TOWN);
            for (String name : new String[] {"bert", "annas", "anna", "anna", "annab"}) Check.street(x, name);
            for (String name : new String[] {"bonn", "ulmen", "ulme", "ulme"}) Check.town(x, name);
        });
        e.isOf(2, "anna ulme", x -> x.read(0) == 0 ? x.of(0, 10) : BAD);
        e.isOf(1, "annax ulmen", x -> x.read(0) == 0 ? x.of(0, 10) : BAD);
        e.isOf(2, "anna ulm", x -> x.read(0) == 0 ? x.of(0, 10) : BAD);
        e.isOf(1, "anna ulmex", x -> x.read(0) == 0 ? x.of(0, 10) : BAD);
        e.isOf(0, "bonn", x -> x.read(0) == 0 ? x.of(0, 10) : BAD);
    }
}
