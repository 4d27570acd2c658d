/** The boundary cases of promises 19 to 22, and of what Terms says of DELIVERIES, CARRIERS and CANONICAL lines. */
public final class DeliveryEdgesTest {
    private static final int NONE = PostalLines.NONE, BAD = PostalLines.BAD, EMPTY = PostalLines.EMPTY;
    private static final int FULL = PostalLines.FULL, LEAST = Integer.MIN_VALUE, MOST = Integer.MAX_VALUE;
    private static final int NUMBER = 0, STREET = 1, UNIT = 2, TOWN = 3, CODE = 4;
    private static final String SMILE = "\ud83d\ude00";
    private static final String[] LINES = {"7b", "main", "apt 4C", "ulm", "10001"};
    private static final Edges e = new Edges("DeliveryEdgesTest");

    public static void main(String[] args) {
        of();
        unitSign();
        carrier();
        canonical();
        deliveries();
        unitsAlike();
        carriersOfWhich();
        carriers();
        canonicalLines();
        canonicalUnitsAndCodes();
        e.end();
    }

    /** A GRAMMAR of all PARTS; STREET 0 saint anna, 1 main; TOWN 0 ulm, 1 bonn; UNIT WORD apt, the NAME 4. */
    private static void book(PostalLines x) {
        Check.grammar(x, 0, NUMBER, STREET, UNIT, TOWN, CODE);
        Check.street(x, "saint anna");
        Check.street(x, "main");
        x.town(Check.name(x, "ulm"), 10000, 19999);
        x.town(Check.name(x, "bonn"), 20000, 20000);
        Check.unit(x, "apt");
    }

    /** DELIVERIES 0 to 4 have one PART each, 5 none, 6 all. */
    private static void seven(PostalLines x) {
        book(x);
        Check.grammar(x, 0, CODE);
        for (String line : LINES) {
            Check.line(x, line);
            x.read(line.equals(LINES[CODE]) ? 1 : 0);
        }
        Check.read(x, "x");
        Check.read(x, "0 saint anna apt " + SMILE + "y bonn 00000");
    }

    private static void forty(PostalLines x) {
        book(x);
        for (int i = 0; i < 40; i++) Check.read(x, "" + i);
    }

    private static void of(String words, int what, int part, int one, int all) {
        e.says(words);
        e.given(DeliveryEdgesTest::seven);
        for (int delivery = 0; delivery < 6; delivery++) {
            int d = delivery;
            e.is(d == part ? one : NONE, "of(" + d + ", " + what + ")", x -> x.of(d, what));
        }
        e.is(all, "of(6, " + what + ")", x -> x.of(6, what));
    }

    private static void of() {
        e.promise(19);
        e.says("Of a DELIVERY: 0 to 4 whether it has that PART (1, 0)");
        e.given(DeliveryEdgesTest::seven);
        for (int delivery = 0; delivery < 7; delivery++) {
            for (int part = 0; part < 5; part++) {
                int d = delivery, p = part;
                e.is(d == p || d == 6 ? 1 : 0, "of(" + d + ", " + p + ")", x -> x.of(d, p));
            }
        }
        of("5 the NUMBER", 5, NUMBER, 7, 0);
        of("6 its letter (97 .. 122; 0)", 6, NUMBER, 'b', 0);
        e.isOf('a', "7a", x -> x.of(x.read(0), 6));
        e.isOf('z', "7z", x -> x.of(x.read(0), 6));
        of("7 the STREET", 7, STREET, 1, 0);
        of("8 the UNIT WORD's NAME", 8, UNIT, 4, 4);
        of("9 how many SIGNS behind it", 9, UNIT, 2, 2);
        e.isOf(1, "apt x", x -> x.of(x.read(0), 9));
        e.isOf(4, "apt " + Check.times(SMILE, 4), x -> x.of(x.read(0), 9));
        of("10 the TOWN", 10, TOWN, 0, 1);
        of("11 the CODE", 11, CODE, 10001, 0);
        e.says("(NONE where there is no such PART)");
        e.given(DeliveryEdgesTest::seven);
        for (int what = 5; what <= 11; what++) {
            int w = what;
            e.is(NONE, "of(5, " + w + ")", x -> x.of(5, w));
        }
        e.says("12 how often it was READ");
        e.given(x -> {
            book(x);
            for (String line : new String[] {"7", "8", "007", "7 x"}) Check.read(x, line);
        });
        e.is(3, "of(0, 12)", x -> x.of(0, 12));
        e.is(1, "of(1, 12)", x -> x.of(1, 12));
        e.given(DeliveryEdgesTest::forty);
        e.isOf(2, "39", x -> x.read(0) == 39 ? x.of(39, 12) : BAD);
        e.isOf(1, "41", x -> x.read(0) == FULL ? x.of(39, 12) : BAD);
        e.says("BAD");
        e.given(DeliveryEdgesTest::seven);
        for (int no : new int[] {-1, 7, 8, 40, LEAST, MOST}) {
            for (int what : new int[] {0, 5, 12}) e.refuses(BAD, "of(" + no + ", " + what + ")", x -> x.of(no, what));
        }
        for (int what : new int[] {-1, 13, 14, 16, 17, LEAST, MOST}) {
            for (int d : new int[] {0, 6}) e.refuses(BAD, "of(" + d + ", " + what + ")", x -> x.of(d, what));
        }
        e.given(DeliveryEdgesTest::forty);
        e.is(39, "of(39, 5)", x -> x.of(39, 5));
        e.refuses(BAD, "of(40, 5)", x -> x.of(40, 5));
    }

    private static void unitSign() {
        e.promise(20);
        e.says("SIGN i of what stands behind the UNIT WORD");
        e.given(DeliveryEdgesTest::seven);
        e.is('4', "the first", x -> x.unitSign(2, 0));
        e.is('c', "FOLDED", x -> x.unitSign(2, 1));
        e.is(128512, "of two UNITS", x -> x.unitSign(6, 0));
        e.is('y', "behind it", x -> x.unitSign(6, 1));
        e.isOf('4', "apt 1234", x -> x.unitSign(x.read(0), 3));
        e.given(x -> {
            book(x);
            for (String line : new String[] {"apt 1", "apt 1234", "apt 5678", "7"}) Check.read(x, line);
        });
        for (int i : new int[] {0, 1, 2, 3}) {
            e.is('1' + i, "unitSign(1, " + i + "), others behind it", x -> x.unitSign(1, i));
            e.is('5' + i, "unitSign(2, " + i + "), others behind it", x -> x.unitSign(2, i));
        }
        e.says("NONE");
        e.given(DeliveryEdgesTest::seven);
        for (int i : new int[] {-1, 2, 3, 4, LEAST, MOST}) e.is(NONE, "unitSign(2, " + i + ")", x -> x.unitSign(2, i));
        e.isOf(NONE, "apt 1234", x -> x.unitSign(x.read(0), 4));
        e.isOf(NONE, "apt 1234", x -> x.unitSign(x.read(0), -1));
        for (int d : new int[] {0, 1, 3, 4, 5}) e.is(NONE, "no UNIT: " + d, x -> x.unitSign(d, 0));
        for (int d : new int[] {-1, 7, 8, 40, LEAST, MOST}) e.refuses(NONE, "no DELIVERY: " + d, x -> x.unitSign(d, 0));
    }

    private static void carrier() {
        e.promise(21);
        e.says("The CARRIER");
        e.given(x -> {
            book(x);
            x.range(1, 0, 99999, 0, 0, 0);
            x.range(0, 0, 99999, 0, 0, 999);
        });
        e.isOf(0, "7 main", x -> x.carrier(x.read(0)));
        e.isOf(999, "7 saint anna", x -> x.carrier(x.read(0)));
        e.says("NONE: no RANGE");
        e.given(DeliveryEdgesTest::seven);
        for (int d : new int[] {0, 1, 2, 3, 4, 5, 6}) e.is(NONE, "carrier(" + d + ")", x -> x.carrier(d));
        e.says("BAD");
        for (int no : new int[] {-1, 7, 40, LEAST, MOST}) {
            e.given(DeliveryEdgesTest::seven);
            e.refuses(BAD, "carrier(" + no + ")", x -> x.carrier(no));
        }
        e.given(DeliveryEdgesTest::forty);
        e.is(NONE, "carrier(39)", x -> x.carrier(39));
        e.refuses(BAD, "carrier(40)", x -> x.carrier(40));
    }

    private static void canonical() {
        e.promise(22);
        e.says("THE CANONICAL line becomes THE LINE (its SIGNS as UNITS)");
        e.given(DeliveryEdgesTest::book);
        e.writes("07B saint ana, APT 4C, ULM 00009", "7b Saint Anna apt 4c Ulm 00009");
        e.writes("apt \ud800\udc00\udbff\udfff\uffff\u0080", "apt \ud800\udc00\udbff\udfff\uffff\u0080");
        e.isOf(0, "7, main", x -> x.canonical(x.read(0)) == 6 ? x.sign(1, -2) : BAD);
        e.isOf(2, "7, main x", x -> x.canonical(x.read(0)) == 6 ? x.words() : BAD);
        e.isOf(0, "7, main x", x -> x.canonical(x.read(0)) == 6 ? x.read(0) : BAD);
        e.isOf(7, "7, main x", x -> x.canonical(x.read(0)) == 6 ? x.feed('y', 1) : BAD);
        e.isOf(6, "7, main x", x -> x.canonical(x.read(0)) == 6 ? x.drop() : BAD);
        e.given(DeliveryEdgesTest::seven);
        e.is(4, "behind another one", x -> x.canonical(6) > 4 ? x.canonical(1) : BAD);
        e.is('M', "behind another one", x -> x.canonical(6) > 4 ? x.canonical(1) + x.unitAt(0) - 4 : BAD);
        e.is(4, "the same once more", x -> x.canonical(1) == 4 ? x.canonical(1) : BAD);
        e.says("how many UNITS");
        e.given(DeliveryEdgesTest::book);
        e.isOf(0, "x", x -> x.canonical(x.read(0)));
        e.isOf(1, "000", x -> x.canonical(x.read(0)));
        e.isOf(12, "apt " + Check.times(SMILE, 4), x -> x.canonical(x.read(0)));
        e.says("BAD");
        e.given(DeliveryEdgesTest::seven);
        for (int no : new int[] {-1, 7, 40, LEAST, MOST}) e.refuses(BAD, "canonical(" + no + ")", x -> x.canonical(no));
        e.given(DeliveryEdgesTest::forty);
        e.is(2, "canonical(39)", x -> x.canonical(39));
        e.refuses(BAD, "canonical(40)", x -> x.canonical(40));
        e.says("FULL: more than 120 (nothing is changed then)");
        e.given(x -> longPlaces(x, "b"));
        e.isOf(120, "s t", x -> x.canonical(x.read(0)));
        e.isOf('B', "s t", x -> x.canonical(x.read(0)) == 120 ? x.unitAt(119) : BAD);
        e.isOf(NONE, "s t", x -> x.canonical(x.read(0)) == 120 ? x.unitAt(120) : BAD);
        for (String last : new String[] {"bb", SMILE, "bbbbbbbbbbbbbbbb", Check.times(SMILE, 16)}) {
            e.given(x -> {
                longPlaces(x, last);
                Check.read(x, "S, t");
            });
            e.refuses(FULL, "one UNIT more and many", x -> x.canonical(0));
            e.is(4, "THE LINE stays", x -> x.canonical(0) == FULL ? x.count(0) : BAD);
            e.isOf(9, "s x 9 x y", x -> x.canonical(0) == FULL ? x.unitAt(4) - 48 : BAD);
        }
    }

    /** A STREET that s may stand for and a TOWN that t may; THE CANONICAL line has 119 UNITS ahead of the last WORD. */
    private static void longPlaces(PostalLines x, String last) {
        String word = Check.times("a", 16), three = word + " " + word + " " + word + " ";
        Check.grammar(x, 3, STREET, TOWN);
        Check.street(x, three + word);
        Check.town(x, three + last);
        x.shorten(Check.name(x, "s"), 0);
        x.shorten(Check.name(x, "t"), 1);
    }

    private static void deliveries() {
        e.terms("What was READ is a DELIVERY");
        e.says("What was READ is a DELIVERY: of each PART whether it has a row");
        e.given(DeliveryEdgesTest::seven);
        e.is(7, "count(8)", x -> x.count(8));
        e.isOf(5, "y z", x -> x.read(0));
        e.isOf(7, "0", x -> x.read(0));
        e.isOf(7, "00000", x -> x.read(0));
        e.isOf(7, "0 00000", x -> x.read(0));
        e.says("and: NUMBER: its figures' number, and its letter (0: none)");
        e.given(x -> {
            book(x);
            Check.read(x, "7b");
        });
        e.isOf(0, "00007B", x -> x.read(0));
        for (String line : new String[] {"7", "7c", "8b", "70b", "b 7"}) e.isOf(1, line, x -> x.read(0));
        e.isOf(0, "7", x -> x.of(x.read(0), 6));
        e.says("STREET, TOWN");
        e.given(x -> {
            book(x);
            Check.read(x, "main ulm");
        });
        e.isOf(0, "mai ulm", x -> x.read(0));
        for (String line : new String[] {"main", "ulm", "saint anna ulm", "main bonn"}) e.isOf(1, line, x -> x.read(0));
    }

    private static void unitsAlike() {
        e.says("UNIT: the UNIT WORD's NAME and the SIGNS behind it");
        e.given(x -> {
            book(x);
            Check.unit(x, "flat");
            Check.read(x, "apt 12");
        });
        e.isOf(0, "APT, 12", x -> x.read(0));
        for (String line : new String[] {"flat 12", "apt 1", "apt 123", "apt 21", "apt 13", "apt 22"}) {
            e.isOf(1, line, x -> x.read(0));
        }
        e.given(x -> {
            book(x);
            Check.read(x, "apt 1234");
        });
        e.isOf(1, "apt 1235", x -> x.read(0));
        e.says("CODE");
        e.given(x -> {
            book(x);
            Check.grammar(x, 1, CODE);
            Check.line(x, "00001");
            x.read(1);
        });
        e.isOf(0, "00001 x", x -> x.read(1));
        e.isOf(1, "00002", x -> x.read(1));
        e.isOf(1, "00001", x -> x.read(0));
        e.says("DELIVERIES (40 at most) that are alike in all of these are one");
        e.given(x -> {
            book(x);
            Check.grammar(x, 0, CODE, TOWN, UNIT, STREET, NUMBER);
            Check.read(x, "7 main apt 3 ulm 10000");
        });
        e.isOf(0, "10000 ulm, apt 3 x main 007", x -> x.read(1));
        e.given(DeliveryEdgesTest::forty);
        e.is(40, "40", x -> x.count(8));
        e.isOf(39, "39 x", x -> x.read(0));
        e.refusesOf(FULL, "40", x -> x.read(0));
        e.says("they are numbered as they come");
        e.given(DeliveryEdgesTest::forty);
        for (int d : new int[] {0, 1, 38, 39}) e.is(d, "of(" + d + ", 5)", x -> x.of(d, 5));
    }

    private static void carriersOfWhich() {
        e.says("The CARRIER of one with a STREET and a NUMBER");
        e.given(x -> {
            book(x);
            x.range(0, 0, 99999, 0, 0, 5);
            x.range(1, 0, 99999, 0, 0, 6);
        });
        e.isOf(6, "7 main", x -> x.carrier(x.read(0)));
        e.isOf(6, "0 main", x -> x.carrier(x.read(0)));
        for (String line : new String[] {"7", "main", "main 10001", "7 ulm", "x"}) e.isOf(NONE, line, x -> x.carrier(x.read(0)));
    }

    private static void given(int low, int high, int side, int town) {
        e.given(x -> {
            book(x);
            x.range(1, low, high, side, town, 5);
        });
    }

    private static void carriers() {
        e.says("of the first RANGE of that STREET in which the NUMBER is");
        given(10, 20, 0, 0);
        for (int n : new int[] {10, 11, 20}) e.isOf(5, n + " main", x -> x.carrier(x.read(0)));
        for (int n : new int[] {0, 9, 21, 99999}) e.isOf(NONE, n + " main", x -> x.carrier(x.read(0)));
        e.isOf(NONE, "10 saint anna", x -> x.carrier(x.read(0)));
        e.isOf(5, "00010z main", x -> x.carrier(x.read(0)));
        given(0, 99999, 0, 0);
        for (int n : new int[] {0, 99999}) e.isOf(5, n + " main", x -> x.carrier(x.read(0)));
        e.given(x -> {
            book(x);
            x.range(0, 0, 99999, 0, 0, 1);
            x.range(1, 0, 8, 0, 0, 2);
            x.range(1, 8, 9, 0, 0, 3);
            x.range(1, 8, 10, 0, 0, 4);
        });
        e.isOf(2, "8 main", x -> x.carrier(x.read(0)));
        e.isOf(3, "9 main", x -> x.carrier(x.read(0)));
        e.isOf(4, "10 main", x -> x.carrier(x.read(0)));
        e.given(x -> {
            book(x);
            for (int i = 0; i < 60; i++) x.range(1, i, i, 0, 0, i);
        });
        for (int n : new int[] {0, 59}) e.isOf(n, n + " main", x -> x.carrier(x.read(0)));
        e.says("with its SIDE");
        given(0, 99999, 1, 0);
        for (int n : new int[] {1, 7, 99999}) e.isOf(5, n + " main", x -> x.carrier(x.read(0)));
        for (int n : new int[] {0, 8, 99998}) e.isOf(NONE, n + " main", x -> x.carrier(x.read(0)));
        given(0, 99999, 2, 0);
        for (int n : new int[] {0, 8, 99998}) e.isOf(5, n + " main", x -> x.carrier(x.read(0)));
        for (int n : new int[] {1, 7, 99999}) e.isOf(NONE, n + " main", x -> x.carrier(x.read(0)));
        given(8, 8, 1, 0);
        e.isOf(NONE, "8 main", x -> x.carrier(x.read(0)));
        e.says("and whose TOWN, if there is a TOWN, is that");
        given(0, 9, 0, 1);
        e.isOf(5, "7 main", x -> x.carrier(x.read(0)));
        e.isOf(5, "7 main bonn", x -> x.carrier(x.read(0)));
        e.isOf(NONE, "7 main ulm", x -> x.carrier(x.read(0)));
        e.says("and whose TOWN's CODES, if there is a CODE, have it");
        given(0, 9, 0, 0);
        for (String code : new String[] {"10000", "10001", "19999"}) e.isOf(5, "7 main " + code, x -> x.carrier(x.read(0)));
        for (String code : new String[] {"00000", "09999", "20000", "99999"}) {
            e.isOf(NONE, "7 main " + code, x -> x.carrier(x.read(0)));
            e.isOf(NONE, "7 main ulm " + code, x -> x.carrier(x.read(0)));
        }
        given(0, 9, 0, 1);
        e.isOf(5, "7 main 20000", x -> x.carrier(x.read(0)));
        e.isOf(NONE, "7 main 19999", x -> x.carrier(x.read(0)));
        e.isOf(NONE, "7 main 20001", x -> x.carrier(x.read(0)));
        e.isOf(NONE, "7 main ulm 20000", x -> x.carrier(x.read(0)));
        e.isOf(5, "7 main bonn 20000", x -> x.carrier(x.read(0)));
    }

    private static void canonicalLines() {
        e.terms("THE CANONICAL line of a DELIVERY");
        e.says("THE CANONICAL line of a DELIVERY: its rows in the order 0 to 4, a blank between");
        e.given(x -> {
            Check.grammar(x, 0, CODE, TOWN, UNIT, STREET, NUMBER);
            Check.street(x, "main");
            Check.town(x, "ulm");
            Check.unit(x, "apt");
        });
        e.writes("12345, ulm, apt 3, main 7", "7 Main apt 3 Ulm 12345");
        e.writes("12345 7", "7 12345");
        e.writes("ulm main", "Main Ulm");
        e.writes("12345", "12345");
        e.writes("x", "");
        e.isOf(EMPTY, "x", x -> x.canonical(x.read(0)) == 0 ? x.words() : BAD);
        e.says("NUMBER: figures without 0s ahead (0 of 0), and its letter");
        e.given(x -> Check.grammar(x, 1, NUMBER));
        e.writes("0", "0");
        e.writes("00000", "0");
        e.writes("00000a", "0a");
        e.writes("00070z", "70z");
        e.writes("10", "10");
        e.writes("10000", "10000");
        e.writes("1", "1");
        e.writes("00002c", "2c");
        e.writes("99999z", "99999z");
        e.says("STREET, TOWN: the WORDS of the first NAME, a blank between");
        e.given(x -> {
            Check.grammar(x, 0, STREET, TOWN);
            Check.street(x, "a,b c-d");
            x.also(0, Check.name(x, "zz"));
            Check.shorten(x, "yyyy", "zz");
            Check.town(x, "ww xx");
        });
        e.writes("zz", "A B C D");
        e.writes("yyyy", "A B C D");
        e.writes("a b c d", "A B C D");
        e.writes("ww xx", "Ww Xx");
    }

    private static void canonicalUnitsAndCodes() {
        e.says("UNIT: the WORD, a blank, the SIGNS");
        e.given(x -> {
            Check.grammar(x, 1, UNIT);
            Check.unit(x, "apt");
        });
        e.writes("APT: B", "apt b");
        e.writes("apt abcd", "apt abcd");
        e.writes("apt " + Check.times(SMILE, 4), "apt " + Check.times(SMILE, 4));
        e.says("CODE: five figures");
        e.given(x -> Check.grammar(x, 1, CODE));
        for (String code : new String[] {"00000", "00001", "00100", "09999", "10000", "99999"}) e.writes(code, code);
        e.says("Of STREET, TOWN the first SIGN of each WORD, if it is 97 .. 122, is 32 less");
        e.given(x -> {
            Check.grammar(x, 1, STREET);
            Check.street(x, "az za 9a \u0080a");
        });
        e.writes("az za 9a \u0080a", "Az Za 9a \u0080a");
        e.given(x -> {
            Check.grammar(x, 1, TOWN);
            Check.town(x, "az zz \u00e4z " + SMILE + "a");
        });
        e.writes("az zz \u00e4z " + SMILE + "a", "Az Zz \u00e4z " + SMILE + "a");
    }
}
