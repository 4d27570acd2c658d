import java.util.ArrayList;
import java.util.HashMap;
import java.util.List;
import java.util.Map;

/**
 * A second PostalLines, written from the document alone with lists and records and without care for
 * speed: it makes every READING there is and sorts them out by the document's words.
 */
final class Oracle {
    static final int NONE = -1, BAD = -2, BROKEN = -3, LONG = -4, EMPTY = -5, KIND = -6, TWICE = -7, FULL = -8;

    record Town(int name, int low, int high) { }
    record Range(int street, int low, int high, int side, int town, int carrier) { }
    record Grammar(List<Integer> parts, int must) { }
    record Word(List<Integer> signs, boolean breakAhead) { }
    record Delivery(List<Boolean> has, int number, int letter, int street, int unitName, List<Integer> unitSigns,
            int town, int code) { }
    record Row(int part, int place, int from, int length, int number, int cost) { }
    record Reading(int cost, List<Integer> marks, List<Row> rows, int street, int town) { }

    private List<Integer> line = new ArrayList<>();
    private final Map<Integer, List<Integer>> folds = new HashMap<>();
    private final List<List<List<Integer>>> names = new ArrayList<>();
    private final List<List<Integer>> shorts = new ArrayList<>();
    private final List<List<Integer>> streets = new ArrayList<>();
    private final List<Town> towns = new ArrayList<>();
    private final List<Integer> units = new ArrayList<>();
    private final List<Range> ranges = new ArrayList<>();
    private final List<Grammar> grammars = new ArrayList<>();
    private final List<Delivery> deliveries = new ArrayList<>();
    private final List<Integer> times = new ArrayList<>();
    private Reading latest;

    // ---- the line

    int feed(long w, int n) {
        if (n < 1 || n > 4) return BAD;
        if (line.size() + n > 120) return FULL;
        for (int i = 0; i < n; i++) line.add((int) ((w >>> (16 * (n - 1 - i))) & 0xffff));
        return line.size();
    }

    int drop() {
        int had = line.size();
        line.clear();
        return had;
    }

    private static boolean noSign(int s) {
        return s < 0 || s > 1114111 || (s >= 55296 && s <= 57343);
    }

    int fold(int sign, int a, int b) {
        if (noSign(sign) || noSign(a) || (b != -1 && noSign(b))) return BAD;
        if (folds.containsKey(sign)) return TWICE;
        if (folds.size() == 30) return FULL;
        folds.put(sign, b == -1 ? List.of(a) : List.of(a, b));
        return 1;
    }

    /** The SIGNS of THE LINE, or null if it is BROKEN. */
    private List<Integer> lineSigns() {
        StringBuilder text = new StringBuilder();
        for (int unit : line) text.append((char) unit);
        List<Integer> signs = new ArrayList<>();
        for (int point : text.codePoints().toArray()) {
            if (point >= 55296 && point <= 57343) return null;
            signs.add(point);
        }
        return signs;
    }

    private static boolean inWord(int s) {
        return (s >= 'a' && s <= 'z') || (s >= '0' && s <= '9') || s >= 128;
    }

    private List<Word> allWords(List<Integer> signs) {
        List<Integer> folded = new ArrayList<>();
        for (int sign : signs) {
            if (folds.containsKey(sign)) folded.addAll(folds.get(sign));
            else folded.add(sign >= 'A' && sign <= 'Z' ? sign + 32 : sign);
        }
        List<Word> words = new ArrayList<>();
        boolean comma = false;
        for (int i = 0; i < folded.size(); i++) {
            if (!inWord(folded.get(i))) {
                comma |= folded.get(i) == ',';
                continue;
            }
            List<Integer> word = new ArrayList<>();
            while (i < folded.size() && inWord(folded.get(i))) word.add(folded.get(i++));
            i--;
            words.add(new Word(word, comma && !words.isEmpty()));
            comma = false;
        }
        return words;
    }

    /** The WORDS of a line that is not refused. */
    private List<Word> wordsThere() {
        List<Integer> signs = lineSigns();
        return signs == null ? List.of() : allWords(signs);
    }

    int words() {
        List<Integer> signs = lineSigns();
        if (signs == null) return BROKEN;
        List<Word> words = allWords(signs);
        if (words.size() > 14) return LONG;
        for (Word word : words) if (word.signs().size() > 16) return LONG;
        return words.isEmpty() ? EMPTY : words.size();
    }

    int sign(int k, int i) {
        if (words() < 0 || k < 0 || k >= words()) return NONE;
        Word word = wordsThere().get(k);
        if (i == -1) return word.signs().size();
        if (i == -2) return word.breakAhead() ? 1 : 0;
        return i < 0 || i >= word.signs().size() ? NONE : word.signs().get(i);
    }

    // ---- the book

    private static boolean out(List<?> list, int i) {
        return i < 0 || i >= list.size();
    }

    int name() {
        if (words() < 0) return words();
        if (words() > 4) return LONG;
        List<List<Integer>> name = new ArrayList<>();
        for (Word word : wordsThere()) name.add(word.signs());
        if (names.contains(name)) return names.indexOf(name);
        if (names.size() == 60) return FULL;
        names.add(name);
        return names.size() - 1;
    }

    int shorten(int a, int b) {
        if (out(names, a) || out(names, b) || a == b) return BAD;
        if (names.get(a).size() > 1) return KIND;
        if (shorts.contains(List.of(a, b))) return TWICE;
        if (shorts.size() == 30) return FULL;
        shorts.add(List.of(a, b));
        return 1;
    }

    int street(int name) {
        if (out(names, name)) return BAD;
        if (streets.size() == 30) return FULL;
        streets.add(new ArrayList<>(List.of(name)));
        return streets.size() - 1;
    }

    int also(int street, int name) {
        if (out(streets, street) || out(names, name)) return BAD;
        List<Integer> had = streets.get(street);
        if (had.contains(name)) return TWICE;
        if (had.size() == 4) return FULL;
        had.add(name);
        return had.size();
    }

    private static boolean noSpan(int low, int high) {
        return low < 0 || low > 99999 || high < 0 || high > 99999 || low > high;
    }

    int town(int name, int low, int high) {
        if (out(names, name) || noSpan(low, high)) return BAD;
        if (towns.size() == 20) return FULL;
        towns.add(new Town(name, low, high));
        return towns.size() - 1;
    }

    int unit(int name) {
        if (out(names, name)) return BAD;
        if (names.get(name).size() > 1) return KIND;
        if (units.contains(name)) return TWICE;
        if (units.size() == 10) return FULL;
        units.add(name);
        return units.size();
    }

    int range(int street, int low, int high, int side, int town, int carrier) {
        if (out(streets, street) || noSpan(low, high) || side < 0 || side > 2) return BAD;
        if (out(towns, town) || carrier < 0 || carrier > 999) return BAD;
        if (ranges.size() == 60) return FULL;
        ranges.add(new Range(street, low, high, side, town, carrier));
        return ranges.size() - 1;
    }

    int grammar(int parts, int order, int must) {
        if (parts < 1 || parts > 5 || order < 0 || must < 0 || must >= Math.pow(2, parts)) return BAD;
        List<Integer> list = new ArrayList<>();
        for (int rest = order; list.size() < parts; rest /= 8) {
            if (rest % 8 > 4 || list.contains(rest % 8)) return BAD;
            list.add(rest % 8);
        }
        if (grammars.size() == 8) return FULL;
        grammars.add(new Grammar(list, must));
        return grammars.size() - 1;
    }

    // ---- reading

    private static boolean oneSlip(List<Integer> word, List<Integer> nameWord) {
        if (nameWord.size() < 4) return false;
        for (int i = 0; i < nameWord.size(); i++) {
            List<Integer> lost = new ArrayList<>(nameWord);
            lost.remove(i);
            if (lost.equals(word)) return true;
            if (word.size() != nameWord.size()) continue;
            List<Integer> other = new ArrayList<>(nameWord);
            other.set(i, word.get(i));
            if (!other.equals(nameWord) && other.equals(word)) return true;
        }
        for (int i = 0; i < word.size(); i++) {
            List<Integer> more = new ArrayList<>(word);
            more.remove(i);
            if (more.equals(nameWord)) return true;
        }
        return false;
    }

    /** The least cost of a row as a NAME, or -1. */
    private int nameCost(List<List<Integer>> row, List<List<Integer>> name) {
        if (row.isEmpty() && name.isEmpty()) return 0;
        if (row.isEmpty() || name.isEmpty()) return -1;
        List<Integer> costs = new ArrayList<>();
        List<List<Integer>> restOfRow = row.subList(1, row.size());
        int rest = nameCost(restOfRow, name.subList(1, name.size()));
        if (rest >= 0 && row.get(0).equals(name.get(0))) costs.add(rest);
        if (rest >= 0 && oneSlip(row.get(0), name.get(0))) costs.add(rest + 3);
        for (List<Integer> s : shorts) {
            List<List<Integer>> whole = names.get(s.get(1));
            boolean isShort = names.get(s.get(0)).get(0).equals(row.get(0));
            if (!isShort || whole.size() > name.size() || !name.subList(0, whole.size()).equals(whole)) continue;
            int behind = nameCost(restOfRow, name.subList(whole.size(), name.size()));
            if (behind >= 0) costs.add(behind + 1);
        }
        return costs.isEmpty() ? -1 : costs.stream().min(Integer::compare).get();
    }

    private List<Integer> namesOf(int way, int number) {
        return way == 0 ? streets.get(number) : List.of(towns.get(number).name());
    }

    private int placeCost(int way, int number, List<Word> row) {
        int least = -1;
        List<List<Integer>> signs = row.stream().map(Word::signs).toList();
        for (int name : namesOf(way, number)) {
            int cost = nameCost(signs, names.get(name));
            if (cost >= 0 && (least < 0 || cost < least)) least = cost;
        }
        return least;
    }

    private static boolean figures(List<Integer> signs) {
        return !signs.isEmpty() && signs.stream().allMatch(s -> s >= '0' && s <= '9');
    }

    private static boolean isNumber(List<Integer> signs) {
        if (figures(signs)) return signs.size() <= 5;
        int last = signs.get(signs.size() - 1);
        List<Integer> ahead = signs.subList(0, signs.size() - 1);
        return last >= 'a' && last <= 'z' && figures(ahead) && ahead.size() <= 5;
    }

    private int unitName(List<Integer> signs) {
        for (int name : units) if (names.get(name).get(0).equals(signs)) return name;
        return -1;
    }

    /** All rows that fit a PART, each with each STREET or TOWN that it may be. */
    private List<Row> rowsOf(int part, int place, List<Word> words) {
        List<Row> rows = new ArrayList<>();
        for (int from = 0; from < words.size(); from++) {
            for (int length = 1; from + length <= words.size(); length++) {
                List<Word> row = words.subList(from, from + length);
                int breaks = 0;
                for (Word word : row.subList(1, length)) if (word.breakAhead()) breaks += 2;
                List<Integer> first = row.get(0).signs();
                if (part == 0 && length == 1 && isNumber(first)) rows.add(new Row(part, place, from, length, 0, breaks));
                if (part == 4 && length == 1 && figures(first) && first.size() == 5) {
                    rows.add(new Row(part, place, from, length, 0, breaks));
                }
                if (part == 2 && length == 2 && unitName(first) >= 0 && row.get(1).signs().size() <= 4) {
                    rows.add(new Row(part, place, from, length, unitName(first), breaks));
                }
                if (part != 1 && part != 3) continue;
                int way = part == 1 ? 0 : 1;
                for (int number = 0; number < (way == 0 ? streets.size() : towns.size()); number++) {
                    int cost = placeCost(way, number, row);
                    if (cost >= 0) rows.add(new Row(part, place, from, length, number, breaks + cost));
                }
            }
        }
        return rows;
    }

    private void allReadings(Grammar g, int place, int from, List<Row> chosen, List<List<Row>> rows, List<Word> words,
            List<Reading> found) {
        if (place == g.parts().size()) {
            found.add(readingOf(g, chosen, words));
            return;
        }
        if ((g.must() >> place) % 2 == 0) allReadings(g, place + 1, from, chosen, rows, words, found);
        for (Row row : rows.get(place)) {
            if (row.from() < from) continue;
            chosen.add(row);
            allReadings(g, place + 1, row.from() + row.length(), chosen, rows, words, found);
            chosen.remove(chosen.size() - 1);
        }
    }

    private Reading readingOf(Grammar g, List<Row> chosen, List<Word> words) {
        List<Integer> marks = new ArrayList<>();
        for (int k = 0; k < words.size(); k++) marks.add(5);
        int cost = 3 * (g.parts().size() - chosen.size());
        int street = -1;
        int town = -1;
        for (Row row : chosen) {
            cost += row.cost();
            for (int i = 0; i < row.length(); i++) marks.set(row.from() + i, row.place());
            if (row.part() == 1) street = row.number();
            if (row.part() == 3) town = row.number();
        }
        for (int mark : marks) if (mark == 5) cost += 4;
        return new Reading(cost, marks, List.copyOf(chosen), street, town);
    }

    private static int compare(Reading a, Reading b) {
        if (a.cost() != b.cost()) return Integer.compare(a.cost(), b.cost());
        for (int k = 0; k < a.marks().size(); k++) {
            int c = Integer.compare(a.marks().get(k), b.marks().get(k));
            if (c != 0) return c;
        }
        return a.street() != b.street() ? Integer.compare(a.street(), b.street()) : Integer.compare(a.town(), b.town());
    }

    int read(int grammar) {
        if (out(grammars, grammar)) return BAD;
        if (words() < 0) return words();
        Grammar g = grammars.get(grammar);
        List<Word> words = wordsThere();
        List<List<Row>> rows = new ArrayList<>();
        for (int place = 0; place < g.parts().size(); place++) rows.add(rowsOf(g.parts().get(place), place, words));
        List<Reading> found = new ArrayList<>();
        allReadings(g, 0, 0, new ArrayList<>(), rows, words, found);
        if (found.isEmpty()) return NONE;
        Reading best = found.stream().min(Oracle::compare).get();
        Delivery d = deliveryOf(best, words);
        if (!deliveries.contains(d)) {
            if (deliveries.size() == 40) return FULL;
            deliveries.add(d);
            times.add(0);
        }
        latest = best;
        int number = deliveries.indexOf(d);
        times.set(number, times.get(number) + 1);
        return number;
    }

    private Delivery deliveryOf(Reading reading, List<Word> words) {
        List<Boolean> has = new ArrayList<>(List.of(false, false, false, false, false));
        int number = -1, letter = -1, unitName = -1, code = -1;
        List<Integer> unitSigns = List.of();
        for (Row row : reading.rows()) {
            has.set(row.part(), true);
            StringBuilder text = new StringBuilder();
            for (int sign : words.get(row.from()).signs()) text.appendCodePoint(sign);
            if (row.part() == 0) {
                char last = text.charAt(text.length() - 1);
                letter = last >= 'a' ? last : 0;
                number = Integer.parseInt(letter == 0 ? text.toString() : text.substring(0, text.length() - 1));
            }
            if (row.part() == 2) {
                unitName = row.number();
                unitSigns = words.get(row.from() + 1).signs();
            }
            if (row.part() == 4) code = Integer.parseInt(text.toString());
        }
        return new Delivery(has, number, letter, reading.street(), unitName, unitSigns, reading.town(), code);
    }

    int cost() {
        return latest == null ? 0 : latest.cost();
    }

    int mark(int k) {
        return latest == null || out(latest.marks(), k) ? NONE : latest.marks().get(k);
    }

    int fits(int way, int number) {
        if (way != 0 && way != 1) return BAD;
        if (out(way == 0 ? streets : towns, number)) return BAD;
        if (words() < 0) return words();
        return placeCost(way, number, wordsThere());
    }

    // ---- deliveries

    int of(int delivery, int what) {
        if (out(deliveries, delivery) || what < 0 || what > 12) return BAD;
        Delivery d = deliveries.get(delivery);
        if (what <= 4) return d.has().get(what) ? 1 : 0;
        return switch (what) {
            case 5 -> d.number();
            case 6 -> d.letter();
            case 7 -> d.street();
            case 8 -> d.unitName();
            case 9 -> d.has().get(2) ? d.unitSigns().size() : NONE;
            case 10 -> d.town();
            case 11 -> d.code();
            default -> times.get(delivery);
        };
    }

    int unitSign(int delivery, int i) {
        if (out(deliveries, delivery) || out(deliveries.get(delivery).unitSigns(), i)) return NONE;
        return deliveries.get(delivery).unitSigns().get(i);
    }

    int carrier(int delivery) {
        if (out(deliveries, delivery)) return BAD;
        Delivery d = deliveries.get(delivery);
        if (!d.has().get(0) || !d.has().get(1)) return NONE;
        for (Range r : ranges) {
            if (r.street() != d.street() || d.number() < r.low() || d.number() > r.high()) continue;
            if (r.side() == 1 && d.number() % 2 == 0 || r.side() == 2 && d.number() % 2 == 1) continue;
            if (d.has().get(3) && d.town() != r.town()) continue;
            Town town = towns.get(r.town());
            if (d.has().get(4) && (d.code() < town.low() || d.code() > town.high())) continue;
            return r.carrier();
        }
        return NONE;
    }

    private String textOf(List<List<Integer>> name, boolean raised) {
        List<String> words = new ArrayList<>();
        for (List<Integer> word : name) {
            StringBuilder text = new StringBuilder();
            for (int sign : word) text.appendCodePoint(sign);
            char first = text.charAt(0);
            if (raised && first >= 'a' && first <= 'z') text.setCharAt(0, Character.toUpperCase(first));
            words.add(text.toString());
        }
        return String.join(" ", words);
    }

    int canonical(int delivery) {
        if (out(deliveries, delivery)) return BAD;
        Delivery d = deliveries.get(delivery);
        List<String> rows = new ArrayList<>();
        if (d.has().get(0)) rows.add(d.number() + (d.letter() > 0 ? String.valueOf((char) d.letter()) : ""));
        if (d.has().get(1)) rows.add(textOf(names.get(streets.get(d.street()).get(0)), true));
        if (d.has().get(2)) {
            rows.add(textOf(List.of(names.get(d.unitName()).get(0), d.unitSigns()), false));
        }
        if (d.has().get(3)) rows.add(textOf(names.get(towns.get(d.town()).name()), true));
        if (d.has().get(4)) rows.add(String.format("%05d", d.code()));
        String text = String.join(" ", rows);
        if (text.length() > 120) return FULL;
        line = new ArrayList<>();
        for (char unit : text.toCharArray()) line.add((int) unit);
        return line.size();
    }

    int unitAt(int i) {
        return out(line, i) ? NONE : line.get(i);
    }

    int count(int what) {
        List<Integer> sizes = List.of(line.size(), names.size(), shorts.size(), streets.size(), towns.size(), units.size(),
                ranges.size(), grammars.size(), deliveries.size(), folds.size());
        return out(sizes, what) ? BAD : sizes.get(what);
    }
}
