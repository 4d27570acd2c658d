/** Promises 15 to 18. */
public final class ReadingTest {
    private static final Check check = new Check("ReadingTest");
    private static final int NUMBER = 0, STREET = 1, UNIT = 2, TOWN = 3, CODE = 4;

    public static void main(String[] args) {
        refusals();
        noReading();
        numbers();
        codes();
        unitRows();
        leftAndAbsent();
        breaks();
        slips();
        shorts();
        severalNames();
        fittingRefusals();
        orderOfParts();
        leastMarks();
        leastPlaces();
        latestReading();
        longestLine();
        check.end();
    }

    /** Reads a line by GRAMMAR 0 and tells cost and marks. */
    private static void reads(PostalLines x, String line, int cost, String marks) {
        Check.line(x, line);
        check.holds("'" + line + "' is READ", x.read(0) >= 0);
        check.due("cost of '" + line + "'", x.cost(), cost);
        check.due("marks of '" + line + "'", Check.marksOf(x), marks);
        check.due("THE LINE stays", Check.lineOf(x), line);
    }

    private static PostalLines with(int must, int... parts) {
        PostalLines x = new PostalLines();
        check.due("grammar", Check.grammar(x, must, parts), 0);
        return x;
    }

    private static void refusals() {
        PostalLines x = new PostalLines();
        for (int no : new int[] {-1, 0, Integer.MIN_VALUE, Integer.MAX_VALUE}) {
            check.due("read(" + no + ")", x.read(no), PostalLines.BAD);
        }
        Check.grammar(x, 0, NUMBER);
        check.due("EMPTY", x.read(0), PostalLines.EMPTY);
        Check.line(x, ", .");
        check.due("EMPTY", x.read(0), PostalLines.EMPTY);
        Check.line(x, "a b c d e f g h i j k l m n o");
        check.due("LONG", x.read(0), PostalLines.LONG);
        check.due("BAD ahead of LONG", x.read(1), PostalLines.BAD);
        Check.line(x, "abcdefghijklmnopq");
        check.due("LONG", x.read(0), PostalLines.LONG);
        Check.feed(x, "\udfff");
        check.due("BROKEN", x.read(0), PostalLines.BROKEN);
        check.due("BAD ahead of BROKEN", x.read(-1), PostalLines.BAD);
        check.due("no DELIVERY", x.count(8), 0);
        check.due("no READING", x.cost(), 0);
        check.due("no READING", x.mark(0), PostalLines.NONE);
    }

    private static void noReading() {
        PostalLines x = with(1, NUMBER, STREET);
        Check.street(x, "main");
        reads(x, "7 main", 0, "01");
        Check.line(x, "main");
        check.due("the NUMBER MUST be", x.read(0), PostalLines.NONE);
        check.due("the latest READING stays", x.cost(), 0);
        check.due("the latest READING stays", Check.marksOf(x), "01");
        check.due("one DELIVERY", x.count(8), 1);
        Check.line(x, "main 7");
        check.due("in this order the STREET has none", x.read(0), 1);
        check.due("marks", Check.marksOf(x), "50");
        check.due("cost", x.cost(), 7);
        PostalLines both = with(3, NUMBER, STREET);
        Check.street(both, "main");
        Check.line(both, "main 7");
        check.due("both MUST be", both.read(0), PostalLines.NONE);
        Check.line(both, "7 x main");
        check.due("both are", both.read(0), 0);
        check.due("marks", Check.marksOf(both), "051");
    }

    private static void number(String line, int number, int letter) {
        PostalLines x = with(1, NUMBER);
        Check.line(x, line);
        check.due("read '" + line + "'", x.read(0), number < 0 ? PostalLines.NONE : 0);
        if (number < 0) return;
        check.due("the NUMBER of '" + line + "'", x.of(0, 5), number);
        check.due("its letter", x.of(0, 6), letter);
        check.due("cost", x.cost(), 0);
    }

    private static void numbers() {
        number("0", 0, 0);
        number("7", 7, 0);
        number("00007", 7, 0);
        number("99999", 99999, 0);
        number("99999z", 99999, 'z');
        number("7B", 7, 'b');
        number("7a", 7, 'a');
        number("123456", -1, 0);
        number("123456a", -1, 0);
        number("7ab", -1, 0);
        number("b", -1, 0);
        number("b7", -1, 0);
        number("7b7", -1, 0);
        number("7\u00e9", -1, 0);
        number("7b\u00e9", -1, 0);
        number("7:", 7, 0);
        number("\u0663", -1, 0);
    }

    private static void codes() {
        PostalLines x = with(1, CODE);
        for (String line : new String[] {"1234", "123456", "1234a", "12345a", "a1234", "\u00e91234"}) {
            Check.line(x, line);
            check.due("'" + line + "' is no CODE", x.read(0), PostalLines.NONE);
        }
        reads(x, "12345", 0, "0");
        check.due("the CODE", x.of(0, 11), 12345);
        reads(x, "00000", 0, "0");
        check.due("the CODE", x.of(1, 11), 0);
        PostalLines y = with(0, NUMBER, CODE);
        reads(y, "12345", 3, "0");
        reads(y, "12345 12345", 0, "01");
        PostalLines z = with(0, CODE, NUMBER);
        reads(z, "12345 7", 0, "01");
        reads(z, "7 12345", 7, "15");
    }

    private static void unitRows() {
        PostalLines x = with(1, UNIT);
        x.unit(Check.name(x, "apt"));
        x.unit(Check.name(x, "flat"));
        reads(x, "apt 1234", 0, "00");
        reads(x, "flat \ud83d\ude00\ud83d\ude00\ud83d\ude00\ud83d\ude00", 0, "00");
        reads(x, "x apt, b y", 10, "5005");
        reads(x, "apt apt b", 4, "005");
        reads(x, "apt flat b", 4, "005");
        check.due("apt and flat", x.of(x.count(8) - 1, 8), 0);
        for (String line : new String[] {"apt", "apt 12345", "b apt", "apts 3", "flats 3", "fla 3", "3 apt"}) {
            Check.line(x, line);
            check.due("'" + line + "' is no UNIT", x.read(0), PostalLines.NONE);
        }
        x.shorten(Check.name(x, "ap"), 0);
        Check.line(x, "ap 3");
        check.due("a SHORT of a UNIT WORD is none", x.read(0), PostalLines.NONE);
    }

    private static void leftAndAbsent() {
        PostalLines x = with(0, NUMBER, STREET, UNIT, TOWN, CODE);
        reads(x, "x", 19, "5");
        reads(x, "x y z", 27, "555");
        reads(x, "7", 12, "0");
        reads(x, "12345", 12, "0");
        Check.street(x, "main");
        reads(x, "x 7 y main z", 21, "50515");
        Check.town(x, "main");
        x.unit(Check.name(x, "main"));
        reads(x, "main main", 9, "13");
        reads(x, "main main main", 9, "122");
        reads(x, "main 3 main", 9, "223");
        reads(x, "1 main main b main 12345", 0, "012234");
    }

    private static void breaks() {
        PostalLines x = with(0, NUMBER, STREET);
        Check.street(x, "a b c d");
        reads(x, "7 a b c d", 0, "01111");
        reads(x, "7, a b c d", 0, "01111");
        reads(x, "7, a, b c d", 2, "01111");
        reads(x, "7 a, b, c,,, d", 6, "01111");
        reads(x, "7 a b c d, x", 4, "011115");
        PostalLines y = with(0, UNIT);
        y.unit(Check.name(y, "apt"));
        reads(y, "apt, 3", 2, "00");
        reads(y, "apt, 3 apt 4", 8, "5500");
        PostalLines z = with(0, STREET);
        Check.street(z, "a b");
        Check.street(z, "a");
        reads(z, "a, b", 2, "00");
        Check.street(z, "b");
        reads(z, "a, b", 2, "00");
    }

    private static int fit(PostalLines x, String line) {
        Check.line(x, line);
        return x.fits(0, 0);
    }

    private static void slips() {
        PostalLines x = new PostalLines();
        Check.street(x, "anna");
        check.due("anna", fit(x, "Anna"), 0);
        String[] slips = {"xnna", "axna", "anxa", "annx", "nna", "ana", "ann", "xanna", "axnna", "anxna", "annxa", "annax",
            "annna", "aanna", "ann\u00e9", "anna\ud83d\ude00", "an\ud83d\ude00a", "9nna"};
        for (String line : slips) check.due(line, fit(x, line), 3);
        String[] none = {"xxna", "an", "nn", "annxx", "xannax", "nana", "naan", "anan", "na", "a", "anna anna", "b anna",
            "anna b", "an na", "aan", "ax\ud83d\ude00a"};
        for (String line : none) check.due(line, fit(x, line), PostalLines.NONE);
        PostalLines y = new PostalLines();
        Check.street(y, "ann");
        check.due("ann", fit(y, "ann"), 0);
        for (String line : new String[] {"an", "anx", "anna"}) {
            check.due(line + " of a WORD of 3 SIGNS", fit(y, line), PostalLines.NONE);
        }
        PostalLines z = new PostalLines();
        Check.street(z, "abcdefghijklmnop");
        check.due("15 of 16 SIGNS", fit(z, "bcdefghijklmnop"), 3);
        check.due("the last one another", fit(z, "abcdefghijklmnox"), 3);
        PostalLines w = new PostalLines();
        Check.street(w, "main anna long road");
        check.due("four SLIPS", fit(w, "mann ana, longe roxd"), 12);
        check.due("one SLIP", fit(w, "main anna long roa"), 3);
        check.due("one WORD with two", fit(w, "main anna long ro"), PostalLines.NONE);
        PostalLines p = new PostalLines();
        Check.street(p, "\ud83d\ude00\ud83d\ude00\ud83d\ude00");
        check.due("3 SIGNS of two UNITS each", fit(p, "\ud83d\ude00\ud83d\ude00"), PostalLines.NONE);
    }

    private static void shorts() {
        PostalLines x = new PostalLines();
        Check.street(x, "saint anna main street");
        int st = Check.name(x, "st");
        int sa = Check.name(x, "sa");
        int all = Check.name(x, "all");
        check.due("SHORTS", x.shorten(st, Check.name(x, "saint")), 1);
        x.shorten(st, Check.name(x, "street"));
        x.shorten(sa, Check.name(x, "saint anna"));
        x.shorten(all, 0);
        x.shorten(sa, Check.name(x, "main street"));
        check.due("none", fit(x, "saint anna main street"), 0);
        check.due("one", fit(x, "st anna main street"), 1);
        check.due("two", fit(x, "st anna main st"), 2);
        check.due("one of two WORDS", fit(x, "sa main street"), 1);
        check.due("all by two", fit(x, "sa sa"), 2);
        check.due("all by one", fit(x, "all"), 1);
        check.due("one and a SLIP", fit(x, "st ana main, street"), 4);
        check.due("a SHORT has no SLIPS", fit(x, "alls"), PostalLines.NONE);
        check.due("st is not anna", fit(x, "saint st main street"), PostalLines.NONE);
        check.due("not for a part of what it stands for", fit(x, "sa anna main street"), PostalLines.NONE);
        check.due("more WORDS than the NAME", fit(x, "all street"), PostalLines.NONE);
        PostalLines y = new PostalLines();
        Check.street(y, "st b");
        check.due("a long one for a short one", fit(y, "street b"), PostalLines.NONE);
        y.shorten(Check.name(y, "stre"), Check.name(y, "stret"));
        Check.street(y, "stret");
        Check.line(y, "stre");
        check.due("a SHORT costs less than a SLIP", y.fits(0, 1), 1);
        PostalLines z = new PostalLines();
        Check.street(z, "a b a");
        z.shorten(Check.name(z, "a"), Check.name(z, "a b"));
        check.due("the SHORT though the WORD is LIKE", fit(z, "a a"), 1);
        check.due("the WORD though it is a SHORT", fit(z, "a b a"), 0);
        check.due("of the last WORD only a part is left", fit(z, "a b"), PostalLines.NONE);
    }

    private static void severalNames() {
        PostalLines x = new PostalLines();
        Check.street(x, "anna");
        x.also(0, Check.name(x, "annas"));
        x.also(0, Check.name(x, "anna strasse"));
        check.due("its first", fit(x, "anna"), 0);
        check.due("its second", fit(x, "annas"), 0);
        check.due("its third, with a SLIP", fit(x, "anna strase"), 3);
        check.due("none", fit(x, "bertha"), PostalLines.NONE);
        Check.town(x, "anna");
        Check.line(x, "annas");
        check.due("a TOWN has one", x.fits(1, 0), 3);
        x.town(Check.name(x, "ulm"), 0, 0);
        Check.line(x, "ulm");
        check.due("the next TOWN", x.fits(1, 1), 0);
        check.due("not the first", x.fits(1, 0), PostalLines.NONE);
        Check.line(x, "anna, strasse");
        check.due("BREAKS do not count", x.fits(0, 0), 0);
    }

    private static void fittingRefusals() {
        PostalLines x = new PostalLines();
        Check.street(x, "anna");
        x.drop();
        for (int way : new int[] {-1, 2, Integer.MIN_VALUE, Integer.MAX_VALUE}) {
            check.due("way " + way, x.fits(way, 0), PostalLines.BAD);
        }
        for (int no : new int[] {-1, 1, Integer.MIN_VALUE, Integer.MAX_VALUE}) {
            check.due("STREET " + no, x.fits(0, no), PostalLines.BAD);
        }
        check.due("no TOWN", x.fits(1, 0), PostalLines.BAD);
        check.due("EMPTY", x.fits(0, 0), PostalLines.EMPTY);
        check.due("LONG", fit(x, "abcdefghijklmnopq"), PostalLines.LONG);
        check.due("LONG", fit(x, "a a a a a a a a a a a a a a a"), PostalLines.LONG);
        check.due("BROKEN", fit(x, "abcdefghijklmnopq \ud800"), PostalLines.BROKEN);
        check.due("BAD ahead of BROKEN", x.fits(0, 1), PostalLines.BAD);
        check.due("14 WORDS", fit(x, "anna a a a a a a a a a a a a a"), PostalLines.NONE);
    }

    private static void orderOfParts() {
        PostalLines x = with(0, TOWN, CODE, STREET, NUMBER);
        Check.street(x, "main");
        Check.town(x, "ulm");
        reads(x, "ulm 12345 main 7", 0, "0123");
        reads(x, "7 main 12345 ulm", 14, "5235");
        reads(x, "main 7 ulm", 10, "235");
        check.due("of a STREET and a NUMBER: no TOWN", x.of(x.count(8) - 1, 10), PostalLines.NONE);
        reads(x, "ulm main 12345", 3, "023");
        reads(x, "ulm 7 12345", 10, "035");
    }

    private static void leastMarks() {
        PostalLines x = with(0, NUMBER);
        reads(x, "7 7", 4, "05");
        reads(x, "7 7 7", 8, "055");
        PostalLines y = with(0, STREET, TOWN);
        Check.street(y, "a");
        Check.street(y, "a a");
        Check.town(y, "a");
        Check.town(y, "a a");
        reads(y, "a", 3, "0");
        reads(y, "a a", 0, "01");
        reads(y, "a a a", 0, "001");
        reads(y, "a a a a", 0, "0011");
        reads(y, "a a a a a", 4, "00115");
        PostalLines z = with(0, TOWN, STREET);
        Check.street(z, "a");
        Check.town(z, "b");
        reads(z, "a b", 7, "15");
        PostalLines w = with(0, STREET, NUMBER);
        Check.street(w, "7");
        reads(w, "7", 3, "0");
        reads(w, "7 7", 0, "01");
        PostalLines v = with(0, NUMBER, STREET);
        Check.street(v, "7");
        reads(v, "7", 3, "0");
        PostalLines u = with(2, NUMBER, STREET);
        Check.street(u, "7");
        reads(u, "7", 3, "1");
    }

    private static void leastPlaces() {
        PostalLines x = with(0, STREET, TOWN);
        Check.street(x, "bertha");
        Check.street(x, "annas");
        Check.street(x, "anna");
        Check.street(x, "anna");
        Check.town(x, "ulms");
        Check.town(x, "ulm");
        Check.town(x, "ulm");
        reads(x, "anna ulm", 0, "01");
        check.due("the least of the cheapest STREETS", x.of(0, 7), 2);
        check.due("the least of the cheapest TOWNS", x.of(0, 10), 1);
        reads(x, "annax ulms", 3, "01");
        check.due("the least of three with a SLIP", x.of(1, 7), 1);
        check.due("TOWN 0", x.of(1, 10), 0);
        x.also(0, Check.name(x, "anna"));
        reads(x, "anna ulm", 0, "01");
        check.due("an other NAME of STREET 0", x.of(2, 7), 0);
    }

    private static void latestReading() {
        PostalLines x = with(0, NUMBER, STREET);
        Check.street(x, "main");
        reads(x, "x 7 main", 4, "501");
        for (int k : new int[] {-1, 3, 14, Integer.MIN_VALUE, Integer.MAX_VALUE}) {
            check.due("mark(" + k + ")", x.mark(k), PostalLines.NONE);
        }
        x.drop();
        check.due("cost without THE LINE", x.cost(), 4);
        check.due("marks without THE LINE", Check.marksOf(x), "501");
        check.due("EMPTY", x.read(0), PostalLines.EMPTY);
        check.due("refused: cost", x.cost(), 4);
        Check.line(x, "7");
        x.fits(0, 0);
        check.due("fits() reads nothing", Check.marksOf(x), "501");
        x.read(0);
        check.due("cost", x.cost(), 3);
        check.due("marks", Check.marksOf(x), "0");
        x.street(0);
        Check.line(x, "main main main");
        check.due("THE LINE alone changes nothing", Check.marksOf(x), "0");
    }

    private static void longestLine() {
        PostalLines x = with(0, STREET, TOWN);
        Check.street(x, "m n");
        reads(x, "a b c d e f g h i j k l m n", 51, "55555555555500");
        Check.town(x, "a b c d");
        reads(x, "a, b, c, d, e, f, g, h, i, j, k, l, m, n", 49, "11115555555555");
        reads(x, "m, n, a, b, c, d, g, h, i, j, k, l, m, n", 40, "00111155555555");
        PostalLines y = with(0, NUMBER, STREET, UNIT, TOWN, CODE);
        reads(y, "a b c d e f g h i j k l m n", 71, "55555555555555");
    }
}
