import java.util.ArrayList;
import java.util.List;

/** What the tests share: telling THE LINE as a text, and comparing answers with those that are due. */
final class Check {
    private final String test;
    private final List<String> faults = new ArrayList<>();
    private int asked;

    Check(String test) {
        this.test = test;
    }

    void due(String call, long got, long want) {
        asked++;
        if (got != want) faults.add(call + " answered " + got + ", due is " + want);
    }

    void due(String call, String got, String want) {
        asked++;
        if (!got.equals(want)) faults.add(call + " answered '" + got + "', due is '" + want + "'");
    }

    void holds(String what, boolean so) {
        asked++;
        if (!so) faults.add("does not hold: " + what);
    }

    /** Prints the faults and ends the program. */
    void end() {
        for (int i = 0; i < faults.size() && i < 40; i++) System.out.println(faults.get(i));
        System.out.println(test + ": " + asked + " asked, " + faults.size() + " wrong");
        if (!faults.isEmpty()) System.exit(1);
    }

    /** Puts the UNITS of a text behind THE LINE, four a call; the last answer of feed. */
    static int feed(PostalLines x, String text) {
        int answer = 0;
        for (int i = 0; i < text.length(); i += 4) {
            int n = Math.min(4, text.length() - i);
            long w = 0;
            for (int k = 0; k < n; k++) w = w << 16 | text.charAt(i + k);
            answer = x.feed(w, n);
        }
        return answer;
    }

    /** THE LINE becomes a text. */
    static void line(PostalLines x, String text) {
        x.drop();
        feed(x, text);
    }

    /** A NAME of a text's WORDS. */
    static int name(PostalLines x, String text) {
        line(x, text);
        return x.name();
    }

    /** NAMES of one WORD each, the SIGNS 200, 201 and so on; three calls each. */
    static void names(PostalLines x, int n) {
        for (int i = 0; i < n; i++) {
            x.drop();
            x.feed(200 + i, 1);
            x.name();
        }
    }

    static int street(PostalLines x, String name) {
        return x.street(name(x, name));
    }

    /** A TOWN with all CODES. */
    static int town(PostalLines x, String name) {
        return x.town(name(x, name), 0, 99999);
    }

    static int unit(PostalLines x, String name) {
        return x.unit(name(x, name));
    }

    static int shorten(PostalLines x, String name, String whole) {
        int a = name(x, name);
        return x.shorten(a, name(x, whole));
    }

    /** A text becomes THE LINE and is READ by GRAMMAR 0. */
    static int read(PostalLines x, String text) {
        line(x, text);
        return x.read(0);
    }

    static String times(String text, int n) {
        StringBuilder all = new StringBuilder();
        for (int i = 0; i < n; i++) all.append(text);
        return all.toString();
    }

    /** THE LINE as a text. */
    static String lineOf(PostalLines x) {
        StringBuilder text = new StringBuilder();
        for (int i = 0; x.unitAt(i) >= 0; i++) text.append((char) x.unitAt(i));
        return text.toString();
    }

    /** The marks of the latest READING, a figure each. */
    static String marksOf(PostalLines x) {
        StringBuilder text = new StringBuilder();
        for (int k = 0; x.mark(k) >= 0; k++) text.append(x.mark(k));
        return text.toString();
    }

    /** The FOLDED WORDS of THE LINE, each with a comma ahead if there is a BREAK. */
    static String wordsOf(PostalLines x) {
        StringBuilder text = new StringBuilder();
        for (int k = 0; x.sign(k, -1) >= 0; k++) {
            if (k > 0) text.append(x.sign(k, -2) == 1 ? ", " : " ");
            for (int i = 0; x.sign(k, i) >= 0; i++) text.appendCodePoint(x.sign(k, i));
        }
        return text.toString();
    }

    /** An order of PARTS as grammar() takes it. */
    static int order(int... parts) {
        int order = 0;
        for (int i = parts.length - 1; i >= 0; i--) order = order * 8 + parts[i];
        return order;
    }

    /** A GRAMMAR of parts in an order. */
    static int grammar(PostalLines x, int must, int... parts) {
        return x.grammar(parts.length, order(parts), must);
    }
}
