import java.util.ArrayList;
import java.util.List;

/** What the tests share: telling THE LINE as a text, and comparing answers with those that are due. */
final class Check {
    private final String test;
    private final List<String> faults = new ArrayList<>();
    private int asked;

    Check(String test) {
        this.test = test;
    }

    void due(String call, long got, long want) {
        asked++;
        if (got != want) faults.add(call + " answered " + got + ", due is " + want);
    }

    void due(String call, String got, String want) {
        asked++;
        if (!got.equals(want)) faults.add(call + " answered '" + got + "', due is '" + want + "'");
    }

    void holds(String what, boolean so) {
        asked++;
        if (!so) faults.add("does not hold: " + what);
    }

    /** Prints the faults and ends the program. */
    void end() {
        for (int i = 0; i < faults.size() && i < 40; i++) System.out.println(faults.get(i));
        System.out.println(test + ": " + asked + " asked, " + faults.size() + " wrong");
        if (!faults.isEmpty()) System.exit(1);
    }

    /** Puts the UNITS of a text behind THE LINE; the last answer of feed. */
    static int feed(PostalLines x, String text) {
        int answer = x.count(0);
        for (int i = 0; i < text.length(); i++) answer = x.feed(text.charAt(i), 1);
        return answer;
    }

    /** THE LINE becomes a text. */
    static void line(PostalLines x, String text) {
        x.drop();
        feed(x, text);
    }

    /** A NAME of a text's WORDS. */
    static int name(PostalLines x, String text) {
        line(x, text);
        return x.name();
    }

    /** THE LINE as a text. */
    static String lineOf(PostalLines x) {
        StringBuilder text = new StringBuilder();
        for (int i = 0; x.unitAt(i) >= 0; i++) text.append((char) x.unitAt(i));
        return text.toString();
    }

    /** The marks of the latest READING, a figure each. */
    static String marksOf(PostalLines x) {
        StringBuilder text = new StringBuilder();
        for (int k = 0; x.mark(k) >= 0; k++) text.append(x.mark(k));
        return text.toString();
    }

    /** The FOLDED WORDS of THE LINE, each with a comma ahead if there is a BREAK. */
    static String wordsOf(PostalLines x) {
        StringBuilder text = new StringBuilder();
        for (int k = 0; x.sign(k, -1) >= 0; k++) {
            if (k > 0) text.append(x.sign(k, -2) == 1 ? ", " : " ");
            for (int i = 0; x.sign(k, i) >= 0; i++) text.appendCodePoint(x.sign(k, i));
        }
        return text.toString();
    }

    /** An order of PARTS as grammar() takes it. */
    static int order(int... parts) {
        int order = 0;
        for (int i = parts.length - 1; i >= 0; i--) order = order * 8 + parts[i];
        return order;
    }

    /** A GRAMMAR of parts in an order. */
    static int grammar(PostalLines x, int must, int... parts) {
        return x.grammar(parts.length, order(parts), must);
    }
}
