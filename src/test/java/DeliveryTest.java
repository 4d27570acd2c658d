/** Promises 19 to 22, and of read() what becomes a DELIVERY. */
public final class DeliveryTest {
    private static final Check check = new Check("DeliveryTest");
    private static final int NUMBER = 0, STREET = 1, UNIT = 2, TOWN = 3, CODE = 4;

    public static void main(String[] args) {
        fields();
        refusals();
        alike();
        forty();
        carriers();
        carriersOfSides();
        canonicalLines();
        canonicalBounds();
        canonicalIsTheLine();
        check.end();
    }

    /** GRAMMAR 0: NUMBER, STREET, UNIT, TOWN, CODE; STREET 0 saint anna, 1 weg; TOWN 0 ulm, 1 bonn; apt. */
    private static PostalLines book() {
        PostalLines x = new PostalLines();
        Check.grammar(x, 0, NUMBER, STREET, UNIT, TOWN, CODE);
        x.street(Check.name(x, "Saint Anna"));
        x.street(Check.name(x, "weg"));
        x.town(Check.name(x, "Ulm"), 10000, 19999);
        x.town(Check.name(x, "Bonn"), 20000, 20000);
        x.unit(Check.name(x, "Apt"));
        return x;
    }

    private static void fields(PostalLines x, int delivery, int... want) {
        for (int what = 0; what < want.length; what++) {
            check.due("of(" + delivery + ", " + what + ")", x.of(delivery, what), want[what]);
        }
    }

    private static void fields() {
        PostalLines x = book();
        check.due("all", Check.read(x, "07b saint anna, apt 4C, ulm 10001"), 0);
        fields(x, 0, 1, 1, 1, 1, 1, 7, 'b', 0, 4, 2, 0, 10001, 1);
        check.due("unitSign(0, 0)", x.unitSign(0, 0), '4');
        check.due("unitSign(0, 1)", x.unitSign(0, 1), 'c');
        for (int i : new int[] {-1, 2, 3, 4, Integer.MIN_VALUE, Integer.MAX_VALUE}) {
            check.due("unitSign(0, " + i + ")", x.unitSign(0, i), PostalLines.NONE);
        }
        check.due("none", Check.read(x, "x"), 1);
        fields(x, 1, 0, 0, 0, 0, 0, -1, -1, -1, -1, -1, -1, -1, 1);
        check.due("unitSign(1, 0)", x.unitSign(1, 0), PostalLines.NONE);
        check.due("a NUMBER", Check.read(x, "00000"), 2);
        fields(x, 2, 1, 0, 0, 0, 0, 0, 0, -1, -1, -1, -1, -1, 1);
        check.due("a STREET", Check.read(x, "weg"), 3);
        fields(x, 3, 0, 1, 0, 0, 0, -1, -1, 1, -1, -1, -1, -1, 1);
        check.due("a TOWN", Check.read(x, "bonn"), 4);
        fields(x, 4, 0, 0, 0, 1, 0, -1, -1, -1, -1, -1, 1, -1, 1);
        check.due("a UNIT", Check.read(x, "apt \ud83d\ude00\ud83d\ude01yz"), 5);
        fields(x, 5, 0, 0, 1, 0, 0, -1, -1, -1, 4, 4, -1, -1, 1);
        check.due("unitSign(5, 0)", x.unitSign(5, 0), 128512);
        check.due("unitSign(5, 1)", x.unitSign(5, 1), 128513);
        check.due("unitSign(5, 3)", x.unitSign(5, 3), 'z');
        check.due("unitSign(5, 4)", x.unitSign(5, 4), PostalLines.NONE);
        check.due("TOWN and CODE", Check.read(x, "bonn 00009"), 6);
        fields(x, 6, 0, 0, 0, 1, 1, -1, -1, -1, -1, -1, 1, 9, 1);
        check.due("7 DELIVERIES", x.count(8), 7);
    }

    private static void refusals() {
        PostalLines x = book();
        for (int i = 0; i < 2; i++) {
            for (int no : new int[] {-1, i, 40, Integer.MIN_VALUE, Integer.MAX_VALUE}) {
                check.due("of(" + no + ", 0)", x.of(no, 0), PostalLines.BAD);
                check.due("unitSign(" + no + ", 0)", x.unitSign(no, 0), PostalLines.NONE);
                check.due("carrier(" + no + ")", x.carrier(no), PostalLines.BAD);
                check.due("canonical(" + no + ")", x.canonical(no), PostalLines.BAD);
            }
            check.due("read", Check.read(x, "7 weg apt 3"), 0);
        }
        for (int what : new int[] {-1, 13, 14, 17, Integer.MIN_VALUE, Integer.MAX_VALUE}) {
            check.due("of(0, " + what + ")", x.of(0, what), PostalLines.BAD);
        }
        check.due("THE LINE stays", Check.lineOf(x), "7 weg apt 3");
    }

    private static void alike() {
        PostalLines x = book();
        check.due("first", Check.read(x, "7 weg"), 0);
        check.due("0s ahead", Check.read(x, "0007 Weg"), 0);
        check.due("LEFT ones", Check.read(x, "7 x weg y"), 0);
        check.due("READ three times", x.of(0, 12), 3);
        check.due("a letter", Check.read(x, "7a weg"), 1);
        check.due("another letter", Check.read(x, "7b weg"), 2);
        check.due("another NUMBER", Check.read(x, "8 weg"), 3);
        check.due("another STREET", Check.read(x, "7 saint anna"), 4);
        check.due("a SLIP", Check.read(x, "7 sant anna"), 4);
        check.due("a TOWN", Check.read(x, "7 weg ulm"), 5);
        check.due("another TOWN", Check.read(x, "7 weg bonn"), 6);
        check.due("a UNIT", Check.read(x, "7 weg apt 1"), 7);
        check.due("other SIGNS", Check.read(x, "7 weg apt 2"), 8);
        check.due("more SIGNS", Check.read(x, "7 weg apt 11"), 9);
        check.due("other SIGNS", Check.read(x, "7 weg apt 21"), 10);
        check.due("the same UNIT", Check.read(x, "7 weg APT, 11"), 9);
        x.unit(Check.name(x, "flat"));
        check.due("another UNIT WORD", Check.read(x, "7 weg flat 11"), 11);
        check.due("a CODE", Check.read(x, "7 weg 10000"), 12);
        check.due("another CODE", Check.read(x, "7 weg 10001"), 13);
        check.due("no NUMBER", Check.read(x, "weg"), 14);
        check.due("no STREET", Check.read(x, "7"), 15);
        check.due("NUMBER 0 and none are two", Check.read(x, "0 weg"), 16);
        Check.grammar(x, 0, STREET, NUMBER);
        Check.line(x, "weg 7");
        check.due("by another GRAMMAR", x.read(1), 0);
        check.due("READ four times", x.of(0, 12), 4);
        check.due("READ twice", x.of(9, 12), 2);
        check.due("17 DELIVERIES", x.count(8), 17);
    }

    private static void forty() {
        PostalLines x = new PostalLines();
        Check.grammar(x, 1, NUMBER);
        for (int i = 0; i < 40; i++) check.due("read " + i, Check.read(x, i + " x"), i);
        check.due("a 41st", Check.read(x, "40 x x"), PostalLines.FULL);
        check.due("refused: the latest READING stays", x.cost(), 4);
        check.due("refused: the latest READING stays", Check.marksOf(x), "05");
        check.due("40 DELIVERIES", x.count(8), 40);
        check.due("an old one", Check.read(x, "7 x y"), 7);
        check.due("cost", x.cost(), 8);
        check.due("READ twice", x.of(7, 12), 2);
        check.due("of none", x.of(40, 12), PostalLines.BAD);
        check.due("NONE ahead of FULL", Check.read(x, "x"), PostalLines.NONE);
        check.due("EMPTY ahead of FULL", Check.read(x, ""), PostalLines.EMPTY);
    }

    private static void carriers() {
        PostalLines x = book();
        int plain = Check.read(x, "7 weg"), inUlm = Check.read(x, "7 weg ulm"), inBonn = Check.read(x, "7 weg bonn");
        int code = Check.read(x, "7 weg 20000"), other = Check.read(x, "7 weg 20001"), both = Check.read(x, "7 weg ulm 20000");
        int anna = Check.read(x, "7 saint anna"), noNumber = Check.read(x, "weg ulm"), noStreet = Check.read(x, "7 ulm");
        int inside = Check.read(x, "7 weg ulm 10000"), last = Check.read(x, "7 weg ulm 19999"), above = Check.read(x, "7 weg bonn 19999");
        for (int delivery = 0; delivery < x.count(8); delivery++) {
            check.due("no RANGE: carrier(" + delivery + ")", x.carrier(delivery), PostalLines.NONE);
        }
        x.range(1, 8, 99, 0, 0, 1);
        x.range(1, 0, 6, 0, 0, 2);
        check.due("out of the RANGES", x.carrier(plain), PostalLines.NONE);
        x.range(1, 7, 7, 0, 0, 3);
        x.range(1, 7, 8, 0, 1, 4);
        x.range(1, 6, 7, 0, 1, 5);
        check.due("the first RANGE", x.carrier(plain), 3);
        check.due("in ulm", x.carrier(inUlm), 3);
        check.due("in bonn", x.carrier(inBonn), 4);
        check.due("a CODE of bonn", x.carrier(code), 4);
        check.due("a CODE of none", x.carrier(other), PostalLines.NONE);
        check.due("ulm, but a CODE of bonn", x.carrier(both), PostalLines.NONE);
        check.due("the first CODE of ulm", x.carrier(inside), 3);
        check.due("the last CODE of ulm", x.carrier(last), 3);
        check.due("a CODE just below bonn's", x.carrier(above), PostalLines.NONE);
        check.due("another STREET", x.carrier(anna), PostalLines.NONE);
        check.due("no NUMBER", x.carrier(noNumber), PostalLines.NONE);
        check.due("no STREET", x.carrier(noStreet), PostalLines.NONE);
        x.range(0, 0, 99999, 0, 1, 0);
        check.due("CARRIER 0", x.carrier(anna), 0);
    }

    private static void carriersOfSides() {
        PostalLines x = book();
        int odd = Check.read(x, "7b weg"), even = Check.read(x, "8 weg"), zero = Check.read(x, "0 weg"), most = Check.read(x, "99999 weg");
        x.range(1, 0, 99999, 1, 0, 11);
        check.due("odd", x.carrier(odd), 11);
        check.due("even", x.carrier(even), PostalLines.NONE);
        x.range(1, 0, 99999, 2, 0, 12);
        check.due("even", x.carrier(even), 12);
        check.due("0 is even", x.carrier(zero), 12);
        check.due("99999", x.carrier(most), 11);
        x.range(1, 0, 99999, 0, 0, 13);
        check.due("the first still", x.carrier(odd), 11);
    }

    private static void canonical(PostalLines x, String line, String want) {
        int delivery = Check.read(x, line);
        check.due("canonical of '" + line + "'", x.canonical(delivery), want.length());
        check.due("canonical of '" + line + "'", Check.lineOf(x), want);
    }

    private static void canonicalLines() {
        PostalLines x = book();
        canonical(x, "007B SAINT anna, APT 4C, ulm 00042", "7b Saint Anna apt 4c Ulm 00042");
        canonical(x, "0", "0");
        canonical(x, "0000a", "0a");
        canonical(x, "10", "10");
        canonical(x, "99999z", "99999z");
        canonical(x, "10203 00000", "10203 00000");
        canonical(x, "sant ana", "Saint Anna");
        canonical(x, "bonn", "Bonn");
        canonical(x, "x y", "");
        check.due("EMPTY then", x.words(), PostalLines.EMPTY);
        canonical(x, "apt ab", "apt ab");
        canonical(x, "weg 12345", "Weg 12345");
        x.also(1, Check.name(x, "chemin"));
        canonical(x, "5 chemin", "5 Weg");
        Check.grammar(x, 0, CODE, TOWN, UNIT, STREET, NUMBER);
        Check.line(x, "01234 ulm apt z weg 8");
        check.due("in the order 0 to 4 by any GRAMMAR", x.canonical(x.read(1)), 21);
        check.due("in the order 0 to 4 by any GRAMMAR", Check.lineOf(x), "8 Weg apt z Ulm 01234");
        PostalLines y = new PostalLines();
        Check.grammar(y, 0, STREET, UNIT);
        y.street(Check.name(y, "\u00e9t\u00e9 9a \ud83d\ude00b"));
        y.unit(Check.name(y, "\ud83d\ude00"));
        canonical(y, "\u00e9t\u00e9 9a \ud83d\ude00b \ud83d\ude00 \udbff\udfffx", "\u00e9t\u00e9 9a \ud83d\ude00b \ud83d\ude00 \udbff\udfffx");
        check.due("the folded STREET's first SIGN stays", y.unitAt(0), 233);
        String least = "\ud800\udc00 \udbff\udfff \uffff \ud83f\udfff";
        PostalLines w = new PostalLines();
        Check.grammar(w, 0, STREET);
        w.street(Check.name(w, least));
        canonical(w, least, least);
        PostalLines z = new PostalLines();
        z.fold('S', 'x', -1);
        z.street(Check.name(z, "az z"));
        Check.grammar(z, 0, STREET);
        canonical(z, "az z", "Az Z");
    }

    /** A CANONICAL line of a STREET and a TOWN: 67 and so many UNITS. */
    private static void canonicalOf(int townSigns, int want) {
        PostalLines x = new PostalLines();
        String word = Check.times("a", 16);
        String street = word + " " + word + " " + word + " " + word;
        int first = Check.name(x, street);
        x.street(first);
        x.also(0, Check.name(x, "s"));
        x.town(Check.name(x, word + " " + word + " " + word + " " + Check.times("b", townSigns)), 0, 0);
        x.shorten(Check.name(x, "t"), 2);
        Check.grammar(x, 3, STREET, TOWN);
        check.due("read", Check.read(x, "s, t!"), 0);
        check.due("canonical", x.canonical(0), want);
        check.due("UNITS", x.count(0), want < 0 ? 5 : want);
        if (want < 0) check.due("THE LINE stays", Check.lineOf(x), "s, t!");
        if (want > 0) check.due("THE LAST UNIT", x.unitAt(want - 1), townSigns == 1 ? 'B' : 'b');
    }

    private static void canonicalBounds() {
        canonicalOf(1, 67 + 1 + 51 + 1);
        canonicalOf(2, PostalLines.FULL);
        canonicalOf(16, PostalLines.FULL);
        PostalLines x = new PostalLines();
        String word = Check.times("\ud83d\ude00", 13);
        Check.grammar(x, 1, STREET);
        x.street(Check.name(x, word + " " + word + " " + word + " " + word));
        check.due("107 UNITS", Check.lineOf(x).length(), 107);
        Check.feed(x, " " + Check.times("x", 12));
        x.also(0, Check.name(x, "s"));
        check.due("read", Check.read(x, "s"), 0);
        check.due("pairs count twice", x.canonical(0), 107);
        check.due("the first half", x.unitAt(0), 0xd83d);
        check.due("the second half", x.unitAt(1), 0xde00);
        PostalLines y = new PostalLines();
        y.fold('q', 0x1f600, 0x1f600);
        Check.grammar(y, 1, STREET);
        y.street(Check.name(y, "qqqqqqqq qqqqqqqq qqqqqqqq qqqqqqqq"));
        check.due("read", Check.read(y, "qqqqqqqq qqqqqqqq qqqqqqqq qqqqqqqq"), 0);
        check.due("131 UNITS", y.canonical(0), PostalLines.FULL);
        check.due("THE LINE stays", y.count(0), 35);
    }

    private static void canonicalIsTheLine() {
        PostalLines x = book();
        int delivery = Check.read(x, "07 sant anna, apt 3");
        check.due("cost", x.cost(), 9);
        check.due("canonical", x.canonical(delivery), 18);
        check.due("words() of it", x.words(), 5);
        check.due("no BREAK", x.sign(3, -2), 0);
        check.due("READ again", x.read(0), delivery);
        check.due("for less", x.cost(), 6);
        check.due("twice", x.of(delivery, 12), 2);
        check.due("more comes behind", x.feed('4', 1), 19);
        check.due("another DELIVERY", x.read(0), delivery + 1);
        check.due("drop()", x.drop(), 19);
        check.due("the first is as it was", x.canonical(delivery), 18);
    }
}
