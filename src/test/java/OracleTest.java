import java.util.Random;

/** Long runs of chosen and random calls: each answer of PostalLines is that of the Oracle. */
public final class OracleTest {
    private static final Check check = new Check("OracleTest");
    private static final int RUNS = 1500, CALLS = 512;

    private final Random random;
    private final int run;
    private final PostalLines x = new PostalLines();
    private final Oracle y = new Oracle();

    /** The texts of the NAMES so far, and the WORDS that lines of this run are made of. */
    private final String[] pool;
    private int calls;

    private OracleTest(int run) {
        this.run = run;
        random = new Random(run);
        pool = new String[6 + random.nextInt(10)];
        for (int i = 0; i < pool.length; i++) pool[i] = poolWord();
    }

    public static void main(String[] args) {
        int runs = args.length > 0 ? Integer.parseInt(args[0]) : RUNS;
        for (int run = 0; run < runs; run++) new OracleTest(run).go();
        for (int run = 0; run < 60; run++) new OracleTest(1000000 + run).goWide();
        for (int run = 0; run < 200; run++) new OracleTest(2000000 + run).goWild();
        check.end();
    }

    private int any(int below) {
        return random.nextInt(below);
    }

    private boolean oneOf(int n) {
        return any(n) == 0;
    }

    private String poolWord() {
        String[] some = {"anna", "annas", "saint", "st", "st", "street", "a", "b", "c", "main", "mail", "weg", "apt",
            "de", "la", "\u00e9t\u00e9s", "\ud83d\ude00\ud83d\ude01ab", "12345", "7", "unit", "ana", "man", "aaaa", "aaab", "aab"};
        return some[any(some.length)];
    }

    private String number() {
        String[] some = {"0", "7", "07", "12", "12b", "7b", "00000", "12345", "10001", "99999", "99999z", "123456", "1bb", "2"};
        return some[any(some.length)];
    }

    private String slipped(String word) {
        StringBuilder text = new StringBuilder(word);
        int at = any(text.length());
        switch (any(4)) {
            case 0: text.setCharAt(at, (char) ('a' + any(3))); break;
            case 1: if (text.length() > 1) text.deleteCharAt(at); break;
            case 2: text.insert(any(text.length() + 1), (char) ('a' + any(3))); break;
            default: text.append('s');
        }
        return text.toString();
    }

    private String word() {
        String word = oneOf(4) ? number() : pool[any(pool.length)];
        if (oneOf(6)) word = slipped(word);
        if (oneOf(12)) word = word.toUpperCase();
        return word;
    }

    private String text(int words) {
        StringBuilder text = new StringBuilder();
        for (int i = 0; i < words; i++) {
            if (i > 0) text.append(oneOf(6) ? ", " : oneOf(15) ? "-" : " ");
            text.append(word());
        }
        if (oneOf(60)) text.insert(any(text.length() + 1), (char) (55296 + any(2048)));
        return text.toString();
    }

    private void due(String call, int got, int want) {
        calls++;
        check.due("run " + run + ", call " + calls + ": " + call, got, want);
    }

    private void line(String text) {
        due("drop()", x.drop(), y.drop());
        for (int i = 0; i < text.length(); i += 4) {
            long w = random.nextLong();
            int n = Math.min(4, text.length() - i);
            for (int k = 0; k < n; k++) w = w << 16 | text.charAt(i + k);
            due("feed " + text, x.feed(w, n), y.feed(w, n));
        }
    }

    /** Mostly one of 0 .. below, now and then one just or far outside. */
    private int pick(int below) {
        if (oneOf(40)) return below;
        if (oneOf(60)) return -1 - any(3);
        if (oneOf(200)) return random.nextInt();
        return below > 0 ? any(below) : 0;
    }

    private void name(int words) {
        line(text(words));
        due("name()", x.name(), y.name());
    }

    private void address(int words) {
        line(text(words));
        due("words()", x.words(), y.words());
    }

    private void shorten() {
        int a = pick(x.count(1)), b = pick(x.count(1));
        due("shorten(" + a + ", " + b + ")", x.shorten(a, b), y.shorten(a, b));
    }

    private void street() {
        int name = pick(x.count(1));
        due("street(" + name + ")", x.street(name), y.street(name));
    }

    private void also() {
        int street = pick(x.count(3)), name = pick(x.count(1));
        due("also(" + street + ", " + name + ")", x.also(street, name), y.also(street, name));
    }

    private void town() {
        int name = pick(x.count(1)), low = pick(20000), high = oneOf(20) ? pick(100000) : low + any(20000);
        due("town(" + name + ", " + low + ", " + high + ")", x.town(name, low, high), y.town(name, low, high));
    }

    private void unit() {
        int name = pick(x.count(1));
        due("unit(" + name + ")", x.unit(name), y.unit(name));
    }

    private void range() {
        int street = pick(x.count(3)), town = pick(x.count(4)), side = pick(3), carrier = pick(1000);
        int low = oneOf(2) ? any(13) : pick(100000), high = oneOf(2) ? 99999 : low + any(5);
        due("range(" + street + ", " + low + ", " + high + ", " + side + ", " + town + ", " + carrier + ")",
                x.range(street, low, high, side, town, carrier), y.range(street, low, high, side, town, carrier));
    }

    private void grammar() {
        int parts = 1 + any(5), order = 0;
        int[] all = {0, 1, 2, 3, 4};
        for (int i = 4; i >= 0; i--) {
            int j = any(i + 1);
            int part = all[j];
            all[j] = all[i];
            order = order * 8 + part;
        }
        if (oneOf(10)) order = random.nextInt();
        if (oneOf(20)) parts = any(9) - 1;
        int must = oneOf(2) ? 0 : pick(1 << Math.max(0, parts));
        due("grammar(" + parts + ", " + order + ", " + must + ")", x.grammar(parts, order, must),
                y.grammar(parts, order, must));
    }

    private void fold() {
        int[] some = {'a', 'B', 's', ' ', '-', ',', '1', 233, 128512, 200, 0, 56000, -1, -2, 1114112, 'z'};
        int sign = oneOf(2) ? 300 + any(40) : some[any(some.length)];
        int a = some[any(some.length)], b = oneOf(2) ? -1 : some[any(some.length)];
        due("fold(" + sign + ", " + a + ", " + b + ")", x.fold(sign, a, b), y.fold(sign, a, b));
    }

    private void read() {
        int grammar = pick(x.count(7));
        due("read(" + grammar + ") of " + Check.lineOf(x), x.read(grammar), y.read(grammar));
        due("cost()", x.cost(), y.cost());
        for (int k = -1; k <= 14; k++) check.due("run " + run + ", call " + calls + ": mark(" + k + ")", x.mark(k), y.mark(k));
    }

    private void fits() {
        int way = any(2), number = pick(x.count(3 + way));
        if (oneOf(40)) way = pick(2);
        due("fits(" + way + ", " + number + ") of " + Check.lineOf(x), x.fits(way, number), y.fits(way, number));
    }

    private void delivery() {
        int delivery = pick(x.count(8));
        for (int what = -1; what <= 13; what++) {
            check.due("run " + run + ": of(" + delivery + ", " + what + ")", x.of(delivery, what), y.of(delivery, what));
        }
        for (int i = -1; i <= 4; i++) {
            check.due("run " + run + ": unitSign(" + delivery + ", " + i + ")", x.unitSign(delivery, i), y.unitSign(delivery, i));
        }
        due("carrier(" + delivery + ")", x.carrier(delivery), y.carrier(delivery));
        if (oneOf(3)) due("canonical(" + delivery + ")", x.canonical(delivery), y.canonical(delivery));
    }

    private void look() {
        for (int what = -1; what <= 10; what++) check.due("run " + run + ": count(" + what + ")", x.count(what), y.count(what));
        for (int i = -1; i <= x.count(0); i++) check.due("run " + run + ": unitAt(" + i + ")", x.unitAt(i), y.unitAt(i));
        due("words()", x.words(), y.words());
        for (int k = -1; k <= 14; k++) {
            for (int i = -3; i <= 16; i++) {
                check.due("run " + run + ", call " + calls + ": sign(" + k + ", " + i + ")", x.sign(k, i), y.sign(k, i));
            }
        }
    }

    /** A book of some size, then lines that are read. */
    private void go() {
        int folds = any(5), names = 3 + any(20);
        for (int i = 0; i < folds; i++) fold();
        for (int i = 0; i < names; i++) name(oneOf(2) ? 1 : 1 + any(4));
        for (int i = any(12); i >= 0; i--) shorten();
        for (int i = any(8); i >= 0; i--) street();
        for (int i = any(8); i >= 0; i--) also();
        for (int i = any(6); i >= 0; i--) town();
        for (int i = any(4); i >= 0; i--) unit();
        for (int i = any(10); i >= 0; i--) range();
        for (int i = any(5); i >= 0; i--) grammar();
        while (calls < CALLS - 20) step();
    }

    private void step() {
        switch (any(24)) {
            case 0: case 1: case 2: case 3: case 4: case 5: case 6: address(1 + any(7)); break;
            case 7: case 8: case 9: case 10: case 11: case 12: read(); break;
            case 13: address(1 + any(4)); fits(); fits(); fits(); break;
            case 14: case 15: delivery(); break;
            case 16: if (oneOf(8)) address(13 + any(4)); break;
            case 17: if (oneOf(4)) fold(); break;
            case 18: if (oneOf(3)) name(1 + any(5)); break;
            case 19: if (oneOf(3)) shorten(); else also(); break;
            case 20: if (oneOf(3)) street(); else range(); break;
            case 21: if (oneOf(3)) town(); break;
            case 22: if (oneOf(5)) unit(); else if (oneOf(5)) grammar(); break;
            default: if (oneOf(4)) look(); break;
        }
    }

    /** Wide tables up to their bounds. */
    private void goWide() {
        for (int i = 0; i < 70; i++) {
            name(1 + any(2));
            if (x.count(1) < 60) {
                line((char) ('a' + any(26)) + "" + (char) ('a' + any(26)) + " " + number());
                due("name()", x.name(), y.name());
            }
            shorten();
            street();
            town();
            unit();
            range();
            fold();
        }
        for (int i = 0; i < 9; i++) grammar();
        for (int i = 0; i < 60; i++) {
            address(1 + any(6));
            read();
            delivery();
        }
        look();
    }

    /** Mostly small numbers, and those around each bound of the document and of the machine. */
    private int wild() {
        int[] some = {Integer.MIN_VALUE, Integer.MIN_VALUE + 1, -65536, -16, -3, -2, -1, 0, 1, 2, 3, 4, 5, 7, 8, 9, 10, 11, 13, 14,
            15, 16, 17, 19, 20, 21, 29, 30, 31, 32, 39, 40, 41, 59, 60, 61, 119, 120, 121, 255, 256, 999, 1000, 55295, 55296,
            57343, 57344, 65535, 65536, 99999, 100000, 1114111, 1114112, 1 << 28, 1 << 30, Integer.MAX_VALUE - 1,
            Integer.MAX_VALUE};
        return oneOf(2) ? any(4) : some[any(some.length)];
    }

    /** Any call with any numbers, on a small book that grows by those that are good. */
    private void goWild() {
        for (int i = 0; i < 6; i++) name(1 + any(2));
        for (int i = 0; i < 3; i++) grammar();
        while (calls < CALLS) wildStep();
    }

    private void wildStep() {
        int a = wild(), b = wild(), c = wild(), d = wild(), t = wild(), f = wild();
        long w = (long) a << 32 ^ b;
        String told = "(" + a + ", " + b + ", " + c + ", " + d + ", " + t + ", " + f + ")";
        switch (any(26)) {
            case 0: due("feed " + told, x.feed(w, c), y.feed(w, c)); break;
            case 1: if (oneOf(4)) due("drop()", x.drop(), y.drop()); break;
            case 2: due("fold " + told, x.fold(a, b, c), y.fold(a, b, c)); break;
            case 3: due("words()", x.words(), y.words()); break;
            case 4: due("sign " + told, x.sign(a, b), y.sign(a, b)); break;
            case 5: due("name()", x.name(), y.name()); break;
            case 6: due("shorten " + told, x.shorten(a, b), y.shorten(a, b)); break;
            case 7: due("street " + told, x.street(a), y.street(a)); break;
            case 8: due("also " + told, x.also(a, b), y.also(a, b)); break;
            case 9: due("town " + told, x.town(a, b, c), y.town(a, b, c)); break;
            case 10: due("unit " + told, x.unit(a), y.unit(a)); break;
            case 11: due("range " + told, x.range(a, b, c, d, t, f), y.range(a, b, c, d, t, f)); break;
            case 12: due("grammar " + told, x.grammar(a, b, c), y.grammar(a, b, c)); break;
            case 13: case 14: due("read " + told, x.read(a), y.read(a)); break;
            case 15: due("cost()", x.cost(), y.cost()); break;
            case 16: due("mark " + told, x.mark(a), y.mark(a)); break;
            case 17: due("fits " + told, x.fits(a, b), y.fits(a, b)); break;
            case 18: due("of " + told, x.of(a, b), y.of(a, b)); break;
            case 19: due("unitSign " + told, x.unitSign(a, b), y.unitSign(a, b)); break;
            case 20: due("carrier " + told, x.carrier(a), y.carrier(a)); break;
            case 21: if (oneOf(4)) due("canonical " + told, x.canonical(a), y.canonical(a)); break;
            case 22: due("unitAt " + told, x.unitAt(a), y.unitAt(a)); break;
            case 23: due("count " + told, x.count(a), y.count(a)); break;
            default: address(1 + any(4));
        }
    }
}
