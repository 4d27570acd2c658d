/** Promises 7 to 14 and what count() tells of them. */
public final class BookTest {
    private static final Check check = new Check("BookTest");
    private static final int[] NO_NUMBERS = {-1, 5, Integer.MIN_VALUE, Integer.MAX_VALUE};

    public static void main(String[] args) {
        names();
        sixtyNames();
        shorts();
        thirtyShorts();
        streets();
        otherNames();
        towns();
        unitWords();
        ranges();
        grammars();
        check.end();
    }

    /** Five NAMES: 0 main street, 1 st, 2 street, 3 apt, 4 saint anna. */
    private static PostalLines fiveNames() {
        PostalLines x = new PostalLines();
        Check.name(x, "main street");
        Check.name(x, "st");
        Check.name(x, "street");
        Check.name(x, "apt");
        Check.name(x, "saint anna");
        return x;
    }

    private static void names() {
        PostalLines x = new PostalLines();
        check.due("EMPTY", x.name(), PostalLines.EMPTY);
        check.due("first", Check.name(x, "Main Street"), 0);
        check.due("THE LINE stays", x.count(0), 11);
        check.due("the same", x.name(), 0);
        check.due("the same WORDS", Check.name(x, "MAIN, street."), 0);
        check.due("another order", Check.name(x, "street main"), 1);
        check.due("fewer WORDS", Check.name(x, "main"), 2);
        check.due("more WORDS", Check.name(x, "main street main street"), 3);
        check.due("5 WORDS", Check.name(x, "a b c d e"), PostalLines.LONG);
        check.due("15 WORDS", Check.name(x, "a b c d e f g h i j k l m n o"), PostalLines.LONG);
        check.due("17 SIGNS", Check.name(x, "abcdefghijklmnopq"), PostalLines.LONG);
        check.due("BROKEN", Check.name(x, "a b c d e \ud800"), PostalLines.BROKEN);
        check.due("EMPTY", Check.name(x, " ,. "), PostalLines.EMPTY);
        check.due("16 SIGNS", Check.name(x, "abcdefghijklmnop"), 4);
        check.due("one SIGN less", Check.name(x, "abcdefghijklmno"), 5);
        check.due("other SIGNS", Check.name(x, "abcdefghijklmnoq"), 6);
        check.due("five NAMES and two", x.count(1), 7);
        x.fold('q', 'p', -1);
        check.due("with a FOLD it is an older one", x.name(), 4);
    }

    private static void sixtyNames() {
        PostalLines x = new PostalLines();
        for (int i = 0; i < 60; i++) {
            x.drop();
            x.feed(0x0061_0020_0062_0020L, 4);
            x.feed(0x0063_0020_0000_0000L + 200 + i, 4);
            check.due("NAME " + i, x.name(), i);
        }
        x.feed('x', 1);
        check.due("a 61st", x.name(), PostalLines.FULL);
        check.due("60 NAMES", x.count(1), 60);
        check.due("an old one", Check.name(x, "a b c \u00c8"), 0);
        check.due("the last one", Check.name(x, "a b c \u0103"), 59);
        check.due("LONG ahead of FULL", Check.name(x, "a b c d e"), PostalLines.LONG);
    }

    private static void shorts() {
        PostalLines x = fiveNames();
        for (int no : NO_NUMBERS) {
            check.due("shorten(" + no + ", 0)", x.shorten(no, 0), PostalLines.BAD);
            check.due("shorten(1, " + no + ")", x.shorten(1, no), PostalLines.BAD);
        }
        check.due("BAD ahead of KIND", x.shorten(0, 0), PostalLines.BAD);
        check.due("itself", x.shorten(1, 1), PostalLines.BAD);
        check.due("two WORDS", x.shorten(0, 1), PostalLines.KIND);
        check.due("st of street", x.shorten(1, 2), 1);
        check.due("st of saint anna", x.shorten(1, 4), 1);
        check.due("street of st", x.shorten(2, 1), 1);
        check.due("again", x.shorten(1, 2), PostalLines.TWICE);
        check.due("three", x.count(2), 3);
    }

    private static void thirtyShorts() {
        PostalLines x = new PostalLines();
        for (int i = 0; i < 32; i++) {
            x.drop();
            x.feed(200 + i, 1);
            x.name();
        }
        check.due("a NAME of two", Check.name(x, "a b"), 32);
        for (int i = 1; i <= 30; i++) check.due("SHORT " + i, x.shorten(0, i), 1);
        check.due("a 31st", x.shorten(0, 31), PostalLines.FULL);
        check.due("TWICE ahead of FULL", x.shorten(0, 30), PostalLines.TWICE);
        check.due("KIND ahead of FULL", x.shorten(32, 0), PostalLines.KIND);
        check.due("30 SHORTS", x.count(2), 30);
    }

    private static void streets() {
        PostalLines x = fiveNames();
        for (int no : NO_NUMBERS) check.due("street(" + no + ")", x.street(no), PostalLines.BAD);
        for (int i = 0; i < 30; i++) check.due("STREET " + i, x.street(i % 2), i);
        check.due("a 31st", x.street(0), PostalLines.FULL);
        check.due("BAD ahead of FULL", x.street(5), PostalLines.BAD);
        check.due("30 STREETS", x.count(3), 30);
        check.due("the last one's NAMES", x.also(29, 2), 2);
    }

    private static void otherNames() {
        PostalLines x = fiveNames();
        x.street(0);
        x.street(0);
        for (int no : new int[] {-1, 2, Integer.MIN_VALUE, Integer.MAX_VALUE}) {
            check.due("also(" + no + ", 1)", x.also(no, 1), PostalLines.BAD);
        }
        for (int no : NO_NUMBERS) check.due("also(0, " + no + ")", x.also(0, no), PostalLines.BAD);
        check.due("its first one", x.also(0, 0), PostalLines.TWICE);
        check.due("a second", x.also(0, 1), 2);
        check.due("a second again", x.also(0, 1), PostalLines.TWICE);
        check.due("a third", x.also(0, 2), 3);
        check.due("a fourth", x.also(0, 3), 4);
        check.due("a fifth", x.also(0, 4), PostalLines.FULL);
        check.due("TWICE ahead of FULL", x.also(0, 3), PostalLines.TWICE);
        check.due("another STREET", x.also(1, 4), 2);
        check.due("no more STREETS", x.count(3), 2);
    }

    private static void towns() {
        PostalLines x = fiveNames();
        for (int no : NO_NUMBERS) check.due("town(" + no + ", ..)", x.town(no, 0, 0), PostalLines.BAD);
        check.due("below 0", x.town(0, -1, 5), PostalLines.BAD);
        check.due("above 99999", x.town(0, 5, 100000), PostalLines.BAD);
        check.due("low above high", x.town(0, 6, 5), PostalLines.BAD);
        check.due("all out", x.town(0, Integer.MIN_VALUE, Integer.MAX_VALUE), PostalLines.BAD);
        check.due("none came", x.count(4), 0);
        check.due("all CODES", x.town(0, 0, 99999), 0);
        check.due("one CODE", x.town(0, 5, 5), 1);
        for (int i = 2; i < 20; i++) check.due("TOWN " + i, x.town(i % 5, 99999, 99999), i);
        check.due("a 21st", x.town(0, 0, 0), PostalLines.FULL);
        check.due("BAD ahead of FULL", x.town(0, 1, 0), PostalLines.BAD);
        check.due("20 TOWNS", x.count(4), 20);
    }

    private static void unitWords() {
        PostalLines x = fiveNames();
        for (int no : NO_NUMBERS) check.due("unit(" + no + ")", x.unit(no), PostalLines.BAD);
        check.due("two WORDS", x.unit(0), PostalLines.KIND);
        check.due("apt", x.unit(3), 1);
        check.due("apt again", x.unit(3), PostalLines.TWICE);
        check.due("st", x.unit(1), 2);
        for (int i = 3; i <= 10; i++) check.due("UNIT WORD " + i, x.unit(Check.name(x, "u" + i)), i);
        int more = Check.name(x, "more");
        check.due("an 11th", x.unit(more), PostalLines.FULL);
        check.due("TWICE ahead of FULL", x.unit(3), PostalLines.TWICE);
        check.due("KIND ahead of FULL", x.unit(0), PostalLines.KIND);
        check.due("10 UNIT WORDS", x.count(5), 10);
    }

    private static void ranges() {
        PostalLines x = fiveNames();
        x.street(0);
        x.street(1);
        x.town(4, 10, 20);
        int[][] bad = {{-1, 0, 9, 0, 0, 0}, {2, 0, 9, 0, 0, 0}, {0, -1, 9, 0, 0, 0}, {0, 0, 100000, 0, 0, 0},
            {0, 9, 8, 0, 0, 0}, {0, 0, 9, -1, 0, 0}, {0, 0, 9, 3, 0, 0}, {0, 0, 9, 0, -1, 0}, {0, 0, 9, 0, 1, 0},
            {0, 0, 9, 0, 0, -1}, {0, 0, 9, 0, 0, 1000}, {Integer.MAX_VALUE, 0, 9, 0, 0, 0},
            {0, Integer.MIN_VALUE, Integer.MAX_VALUE, 0, 0, 0}, {0, 0, 9, 0, Integer.MIN_VALUE, 0}};
        for (int[] a : bad) {
            check.due("a bad range", x.range(a[0], a[1], a[2], a[3], a[4], a[5]), PostalLines.BAD);
        }
        check.due("none came", x.count(6), 0);
        check.due("all numbers", x.range(0, 0, 99999, 0, 0, 0), 0);
        check.due("one number", x.range(1, 7, 7, 1, 0, 999), 1);
        check.due("even ones", x.range(1, 99999, 99999, 2, 0, 5), 2);
        for (int i = 3; i < 60; i++) check.due("RANGE " + i, x.range(0, 0, 99999, 0, 0, 0), i);
        check.due("a 61st", x.range(0, 0, 99999, 0, 0, 0), PostalLines.FULL);
        check.due("BAD ahead of FULL", x.range(0, 0, 99999, 0, 0, 1000), PostalLines.BAD);
        check.due("60 RANGES", x.count(6), 60);
    }

    private static void grammars() {
        PostalLines x = new PostalLines();
        check.due("no PARTS", x.grammar(0, 0, 0), PostalLines.BAD);
        check.due("6 PARTS", x.grammar(6, Check.order(0, 1, 2, 3, 4), 0), PostalLines.BAD);
        check.due("-1 PARTS", x.grammar(-1, 0, 0), PostalLines.BAD);
        check.due("33 PARTS", x.grammar(33, 0, 0), PostalLines.BAD);
        check.due("order below 0", x.grammar(1, -8, 0), PostalLines.BAD);
        check.due("order least", x.grammar(1, Integer.MIN_VALUE, 0), PostalLines.BAD);
        for (int part = 5; part <= 7; part++) {
            check.due("PART " + part, x.grammar(1, part, 0), PostalLines.BAD);
            check.due("PART " + part + " behind", x.grammar(2, Check.order(1, part), 0), PostalLines.BAD);
        }
        check.due("0 twice", x.grammar(2, 0, 0), PostalLines.BAD);
        check.due("3 twice", x.grammar(3, Check.order(3, 1, 3), 0), PostalLines.BAD);
        check.due("5 PARTS, 0 twice", x.grammar(5, Check.order(0, 1, 2, 3, 0), 0), PostalLines.BAD);
        check.due("must below 0", x.grammar(2, Check.order(0, 1), -1), PostalLines.BAD);
        check.due("must of a third", x.grammar(2, Check.order(0, 1), 4), PostalLines.BAD);
        check.due("must of 1 ..", x.grammar(5, Check.order(0, 1, 2, 3, 4), 32), PostalLines.BAD);
        check.due("none came", x.count(7), 0);
        check.due("one PART", x.grammar(1, 0, 1), 0);
        check.due("what is above is not looked at", x.grammar(1, 8 * 7 + 1, 0), 1);
        check.due("order most", x.grammar(1, Integer.MAX_VALUE - 7 + 4, 0), 2);
        check.due("five", x.grammar(5, Check.order(4, 3, 2, 1, 0), 31), 3);
        for (int i = 4; i < 8; i++) check.due("GRAMMAR " + i, x.grammar(2, Check.order(3, 0), 3), i);
        check.due("a 9th", x.grammar(1, 0, 0), PostalLines.FULL);
        check.due("BAD ahead of FULL", x.grammar(1, 5, 0), PostalLines.BAD);
        check.due("8 GRAMMARS", x.count(7), 8);
    }
}
