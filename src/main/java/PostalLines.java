import java.util.Arrays;

/**
 * A reader of postal lines: what ../shared/DOC.md promises, in the part of Java that
 * ../shared/LANGUAGE.md leaves. All rows are made once, with the object, and used again by every
 * call; every index goes through at() and put(), so that none can lie outside its row.
 */
public final class PostalLines {
    public static final int NONE = -1, BAD = -2, BROKEN = -3, LONG = -4, EMPTY = -5, KIND = -6, TWICE = -7, FULL = -8;

    private static final int MAX_UNITS = 120, MAX_FOLDS = 30, MAX_WORDS = 14, MAX_SIGNS = 16;
    private static final int MAX_NAMES = 60, NAME_WORDS = 4, BOOK_WORDS = MAX_NAMES * NAME_WORDS, MAX_SHORTS = 30;
    private static final int MAX_STREETS = 30, STREET_NAMES = 4, MAX_TOWNS = 20, MAX_UNIT_WORDS = 10;
    private static final int MAX_RANGES = 60, MAX_GRAMMARS = 8, MAX_DELIVERIES = 40;
    private static final int MAX_NUMBER = 99999, MAX_CARRIER = 999, UNIT_SIGNS = 4, FIGURES = 5;

    private static final int NUMBER = 0, STREET = 1, UNIT = 2, TOWN = 3, CODE = 4, PARTS = 5;
    private static final int ALL_SIDES = 0, ODD = 1, EVEN = 2;

    private static final int COST_LEFT = 4, COST_BREAK = 2, COST_ABSENT = 3, COST_SLIP = 3, COST_SHORT = 1;
    private static final int SLIP_FROM = 4, LEFT = 5;

    /** A cost that no row and no way through a NAME can have. */
    private static final int NEVER = 1000000;

    private static final int LAST_SIGN = 1114111, FIRST_PAIRED = 65536, HALF_SIZE = 1024;
    private static final int FIRST_HALVES = 55296, SECOND_HALVES = 56320, LAST_HALF = 57343;
    private static final int COMMA = 44, BLANK = 32, CASE_STEP = 32;

    private final Line line;
    private final Folds folds;
    private final Words text;
    private final Book book;
    private final Places places;
    private final Grammars grammars;
    private final Fitting fitting;
    private final Reader reader;
    private final Deliveries deliveries;
    private final Scribe scribe;

    /** Whether text holds the WORDS of THE LINE as it is now, with the FOLDS as they are now. */
    private boolean current;

    public PostalLines() {
        line = new Line();
        folds = new Folds();
        text = new Words();
        book = new Book();
        places = new Places();
        grammars = new Grammars();
        deliveries = new Deliveries();
        fitting = new Fitting(book, text);
        reader = new Reader(text, places, grammars, fitting, deliveries);
        scribe = new Scribe(book, places, deliveries);
        current = false;
    }

    // ---- the line

    public int feed(long w, int n) {
        if (n < 1 || n > 4) return BAD;
        if (line.size > MAX_UNITS - n) return FULL;
        for (int i = n - 1; i >= 0; i--) line.append((int) ((w >> (16 * i)) & 65535L));
        current = false;
        return line.size;
    }

    public int drop() {
        int had = line.size;
        line.clear();
        current = false;
        return had;
    }

    public int fold(int sign, int a, int b) {
        if (!isSign(sign) || !isSign(a) || (b != NONE && !isSign(b))) return BAD;
        if (folds.indexOf(sign) >= 0) return TWICE;
        if (folds.size >= MAX_FOLDS) return FULL;
        folds.add(sign, a, b);
        current = false;
        return 1;
    }

    public int words() {
        return freshText().state();
    }

    public int sign(int k, int i) {
        if (freshText().state() < 0 || k < 0 || k >= text.size) return NONE;
        if (i == -1) return text.lengthOf(k);
        if (i == -2) return text.breakAhead(k);
        return text.signAt(k, i);
    }

    // ---- the book

    public int name() {
        int state = freshText().state();
        if (state > NAME_WORDS) return LONG;
        return state < 0 ? state : book.enter(text);
    }

    public int shorten(int a, int b) {
        if (!book.hasName(a) || !book.hasName(b) || a == b) return BAD;
        if (book.sizeOf(a) != 1) return KIND;
        if (book.hasShort(a, b)) return TWICE;
        if (book.shorts >= MAX_SHORTS) return FULL;
        book.addShort(a, b);
        return 1;
    }

    public int street(int name) {
        if (!book.hasName(name)) return BAD;
        return places.streets >= MAX_STREETS ? FULL : places.addStreet(name);
    }

    public int also(int street, int name) {
        if (!places.has(STREET, street) || !book.hasName(name)) return BAD;
        if (places.streetHasName(street, name)) return TWICE;
        return places.namesOf(STREET, street) >= STREET_NAMES ? FULL : places.addStreetName(street, name);
    }

    public int town(int name, int low, int high) {
        if (!book.hasName(name) || !isSpan(low, high)) return BAD;
        return places.towns >= MAX_TOWNS ? FULL : places.addTown(name, low, high);
    }

    public int unit(int name) {
        if (!book.hasName(name)) return BAD;
        if (book.sizeOf(name) != 1) return KIND;
        if (places.isUnitName(name)) return TWICE;
        return places.unitWords >= MAX_UNIT_WORDS ? FULL : places.addUnitName(name, book.wordOf(name, 0));
    }

    public int range(int street, int low, int high, int side, int town, int carrier) {
        if (!places.has(STREET, street) || !isSpan(low, high) || side < ALL_SIDES || side > EVEN) return BAD;
        if (!places.has(TOWN, town) || carrier < 0 || carrier > MAX_CARRIER) return BAD;
        return places.ranges >= MAX_RANGES ? FULL : places.addRange(street, low, high, side, town, carrier);
    }

    public int grammar(int parts, int order, int must) {
        if (!Grammars.isGrammar(parts, order, must)) return BAD;
        return grammars.size >= MAX_GRAMMARS ? FULL : grammars.add(parts, order, must);
    }

    // ---- reading

    public int read(int grammar) {
        if (grammar < 0 || grammar >= grammars.size) return BAD;
        int state = freshText().state();
        if (state < 0) return state;
        if (!reader.findBest(grammar)) return NONE;
        reader.describe(grammar);
        int delivery = deliveries.keepDraft();
        if (delivery >= 0) reader.keepBest();
        return delivery;
    }

    public int cost() {
        return reader.latestCost();
    }

    public int mark(int k) {
        return reader.latestMark(k);
    }

    public int fits(int way, int number) {
        if (way < 0 || way > 1) return BAD;
        int part = way == 0 ? STREET : TOWN;
        if (!places.has(part, number)) return BAD;
        int state = freshText().state();
        if (state < 0) return state;
        int least = leastOfNames(part, number);
        return least < NEVER ? least : NONE;
    }

    // ---- deliveries

    public int of(int delivery, int what) {
        if (!deliveries.has(delivery) || what < 0 || what > Deliveries.TIMES) return BAD;
        return deliveries.get(delivery, what);
    }

    public int unitSign(int delivery, int i) {
        return deliveries.unitSignAt(delivery, i);
    }

    public int carrier(int delivery) {
        if (!deliveries.has(delivery)) return BAD;
        return places.carrierOf(deliveries.get(delivery, Deliveries.STREET_AT),
                deliveries.get(delivery, Deliveries.NUMBER_AT),
                deliveries.get(delivery, Deliveries.TOWN_AT),
                deliveries.get(delivery, Deliveries.CODE_AT));
    }

    public int canonical(int delivery) {
        if (!deliveries.has(delivery)) return BAD;
        scribe.write(delivery);
        if (scribe.size > MAX_UNITS) return FULL;
        line.clear();
        for (int i = 0; i < scribe.size; i++) line.append(scribe.get(i));
        current = false;
        return line.size;
    }

    public int unitAt(int i) {
        return line.get(i);
    }

    public int count(int what) {
        switch (what) {
            case 0: return line.size;
            case 1: return book.names;
            case 2: return book.shorts;
            case 3: return places.streets;
            case 4: return places.towns;
            case 5: return places.unitWords;
            case 6: return places.ranges;
            case 7: return grammars.size;
            case 8: return deliveries.size;
            case 9: return folds.size;
            default: return BAD;
        }
    }

    // ---- what the calls share

    private Words freshText() {
        if (!current) text.split(line, folds);
        current = true;
        return text;
    }

    private int leastOfNames(int part, int number) {
        fitting.prepare();
        int least = NEVER;
        for (int i = 0; i < places.namesOf(part, number); i++) {
            int name = places.nameOf(part, number, i);
            fitting.walk(name, 0);
            least = Math.min(least, fitting.costOf(name, text.size));
        }
        return least;
    }

    private static int at(int[] row, int i) {
        return i >= 0 && i < row.length ? row[i] : NONE;
    }

    private static void put(int[] row, int i, int value) {
        if (i >= 0 && i < row.length) row[i] = value;
    }

    private static boolean isHalf(int unit) {
        return unit >= FIRST_HALVES && unit <= LAST_HALF;
    }

    private static boolean isFirstHalf(int unit) {
        return unit >= FIRST_HALVES && unit < SECOND_HALVES;
    }

    private static boolean isSecondHalf(int unit) {
        return unit >= SECOND_HALVES && unit <= LAST_HALF;
    }

    private static boolean isSign(int sign) {
        return sign >= 0 && sign <= LAST_SIGN && !isHalf(sign);
    }

    private static boolean isFigure(int sign) {
        return sign >= 48 && sign <= 57;
    }

    private static boolean isSmallLetter(int sign) {
        return sign >= 97 && sign <= 122;
    }

    private static boolean isGreatLetter(int sign) {
        return sign >= 65 && sign <= 90;
    }

    private static boolean isWordSign(int sign) {
        return isSmallLetter(sign) || isFigure(sign) || sign >= 128;
    }

    private static boolean isSpan(int low, int high) {
        return low >= 0 && low <= high && high <= MAX_NUMBER;
    }

    /** THE LINE: its UNITS. */
    private static final class Line {
        private final int[] units = new int[MAX_UNITS];
        private int size;

        void append(int unit) {
            if (size >= MAX_UNITS) return;
            put(units, size, unit);
            size++;
        }

        void clear() {
            size = 0;
        }

        int get(int i) {
            return i < size ? at(units, i) : NONE;
        }
    }

    /** Which SIGNS become which others. */
    private static final class Folds {
        private final int[] from = new int[MAX_FOLDS];
        private final int[] first = new int[MAX_FOLDS];
        private final int[] second = new int[MAX_FOLDS];
        private int size;

        int indexOf(int sign) {
            for (int i = 0; i < size; i++) {
                if (at(from, i) == sign) return i;
            }
            return NONE;
        }

        int firstOf(int i) {
            return at(first, i);
        }

        int secondOf(int i) {
            return at(second, i);
        }

        void add(int sign, int a, int b) {
            put(from, size, sign);
            put(first, size, a);
            put(second, size, b);
            size++;
        }
    }

    /** The FOLDED WORDS of a line. */
    private static final class Words {
        private final int[] signs = new int[MAX_WORDS * MAX_SIGNS];
        private final int[] lengths = new int[MAX_WORDS];
        private final int[] figures = new int[MAX_WORDS];
        private final int[] breaks = new int[MAX_WORDS];
        private int size;
        private boolean broken;
        private boolean tooLong;
        private boolean inWord;
        private boolean comma;

        void split(Line line, Folds folds) {
            size = 0;
            broken = false;
            tooLong = false;
            inWord = false;
            comma = false;
            for (int i = 0; i < line.size; i++) {
                int unit = line.get(i);
                int next = line.get(i + 1);
                if (isFirstHalf(unit) && isSecondHalf(next)) {
                    takeFolded(FIRST_PAIRED + HALF_SIZE * (unit - FIRST_HALVES) + next - SECOND_HALVES, folds);
                    i++;
                } else if (isHalf(unit)) {
                    broken = true;
                } else {
                    takeFolded(unit, folds);
                }
            }
        }

        /** How many there are, or why THE LINE is refused. */
        int state() {
            if (broken) return BROKEN;
            if (tooLong) return LONG;
            return size == 0 ? EMPTY : size;
        }

        int lengthOf(int k) {
            return at(lengths, k);
        }

        int breakAhead(int k) {
            return at(breaks, k);
        }

        int signAt(int k, int i) {
            return i >= 0 && i < at(lengths, k) ? at(signs, k * MAX_SIGNS + i) : NONE;
        }

        boolean isNumber(int k) {
            int ahead = at(figures, k);
            if (ahead < 1 || ahead > FIGURES) return false;
            int behind = at(lengths, k) - ahead;
            return behind == 0 || (behind == 1 && isSmallLetter(signAt(k, ahead)));
        }

        boolean isCode(int k) {
            return at(figures, k) == FIGURES && at(lengths, k) == FIGURES;
        }

        /** The number that the figures ahead in a NUMBER or a CODE are. */
        int numberOf(int k) {
            int number = 0;
            for (int i = 0; i < FIGURES && i < at(figures, k); i++) number = 10 * number + signAt(k, i) - 48;
            return number;
        }

        /** The letter behind a NUMBER's figures, or 0. */
        int letterOf(int k) {
            return Math.max(0, signAt(k, at(figures, k)));
        }

        private void takeFolded(int sign, Folds folds) {
            int place = folds.indexOf(sign);
            if (place < 0) {
                take(isGreatLetter(sign) ? sign + CASE_STEP : sign);
                return;
            }
            take(folds.firstOf(place));
            if (folds.secondOf(place) != NONE) take(folds.secondOf(place));
        }

        private void take(int sign) {
            if (isWordSign(sign)) {
                if (!inWord) begin();
                append(sign);
            } else {
                inWord = false;
                if (sign == COMMA) comma = true;
            }
        }

        private void begin() {
            inWord = true;
            if (size >= MAX_WORDS) {
                tooLong = true;
                return;
            }
            put(breaks, size, comma && size > 0 ? 1 : 0);
            put(lengths, size, 0);
            put(figures, size, 0);
            size++;
            comma = false;
        }

        /** Once a line is too long it stays so: what comes behind is not looked at, but for its halves. */
        private void append(int sign) {
            int k = size - 1;
            int length = at(lengths, k);
            if (length >= MAX_SIGNS) tooLong = true;
            if (tooLong) return;
            put(signs, k * MAX_SIGNS + length, sign);
            put(lengths, k, length + 1);
            if (isFigure(sign) && at(figures, k) == length) put(figures, k, length + 1);
        }
    }

    /** NAMES and SHORTS. Each WORD of a NAME is kept once, so that LIKE ones have one number. */
    private static final class Book {
        private final int[] signs = new int[BOOK_WORDS * MAX_SIGNS];
        private final int[] lengths = new int[BOOK_WORDS];
        private final int[] nameWords = new int[BOOK_WORDS];
        private final int[] nameSizes = new int[MAX_NAMES];
        private final int[] shortNames = new int[MAX_SHORTS];
        private final int[] longNames = new int[MAX_SHORTS];
        private final int[] found = new int[NAME_WORDS];
        private int bookWords;
        private int names;
        private int shorts;

        boolean hasName(int name) {
            return name >= 0 && name < names;
        }

        /** How many WORDS a NAME has. */
        int sizeOf(int name) {
            return at(nameSizes, name);
        }

        int wordOf(int name, int i) {
            return i >= 0 && i < NAME_WORDS ? at(nameWords, name * NAME_WORDS + i) : NONE;
        }

        int lengthOf(int word) {
            return at(lengths, word);
        }

        int signAt(int word, int i) {
            return i >= 0 && i < at(lengths, word) ? at(signs, word * MAX_SIGNS + i) : NONE;
        }

        /** The number of the NAME that has the text's WORDS, which are 4 at most. */
        int enter(Words text) {
            for (int k = 0; k < text.size; k++) put(found, k, wordLike(text, k));
            for (int name = 0; name < names; name++) {
                if (isFound(name, text.size)) return name;
            }
            if (names >= MAX_NAMES) return FULL;
            for (int k = 0; k < text.size; k++) {
                int word = wordLike(text, k);
                put(nameWords, names * NAME_WORDS + k, word >= 0 ? word : addWord(text, k));
            }
            put(nameSizes, names, text.size);
            names++;
            return names - 1;
        }

        /** The book's WORD that WORD k of the text is. */
        int wordLike(Words text, int k) {
            for (int word = 0; word < bookWords; word++) {
                if (isLike(text, k, word)) return word;
            }
            return NONE;
        }

        boolean hasShort(int a, int b) {
            for (int i = 0; i < shorts; i++) {
                if (at(shortNames, i) == a && at(longNames, i) == b) return true;
            }
            return false;
        }

        void addShort(int a, int b) {
            put(shortNames, shorts, a);
            put(longNames, shorts, b);
            shorts++;
        }

        /** How many WORDS of the NAME, from WORD start on, SHORT i stands for if it is this WORD; or 0. */
        int shortReach(int i, int word, int name, int start) {
            if (at(nameWords, at(shortNames, i) * NAME_WORDS) != word) return 0;
            int whole = at(longNames, i);
            int reach = at(nameSizes, whole);
            if (start + reach > at(nameSizes, name)) return 0;
            for (int k = 0; k < reach; k++) {
                int wanted = at(nameWords, name * NAME_WORDS + start + k);
                if (at(nameWords, whole * NAME_WORDS + k) != wanted) return 0;
            }
            return reach;
        }

        private boolean isFound(int name, int size) {
            if (sizeOf(name) != size) return false;
            for (int k = 0; k < size; k++) {
                if (wordOf(name, k) != at(found, k)) return false;
            }
            return true;
        }

        private boolean isLike(Words text, int k, int word) {
            int length = lengthOf(word);
            if (text.lengthOf(k) != length) return false;
            for (int i = 0; i < length; i++) {
                if (text.signAt(k, i) != signAt(word, i)) return false;
            }
            return true;
        }

        private int addWord(Words text, int k) {
            int length = text.lengthOf(k);
            for (int i = 0; i < length; i++) put(signs, bookWords * MAX_SIGNS + i, text.signAt(k, i));
            put(lengths, bookWords, length);
            bookWords++;
            return bookWords - 1;
        }
    }

    /** STREETS, TOWNS, UNIT WORDS and RANGES. */
    private static final class Places {
        private final int[] streetNames = new int[MAX_STREETS * STREET_NAMES];
        private final int[] streetSizes = new int[MAX_STREETS];
        private final int[] townNames = new int[MAX_TOWNS];
        private final int[] townLows = new int[MAX_TOWNS];
        private final int[] townHighs = new int[MAX_TOWNS];
        private final int[] unitNames = new int[MAX_UNIT_WORDS];
        private final int[] unitBookWords = new int[MAX_UNIT_WORDS];
        private final int[] rangeStreets = new int[MAX_RANGES];
        private final int[] rangeLows = new int[MAX_RANGES];
        private final int[] rangeHighs = new int[MAX_RANGES];
        private final int[] rangeSides = new int[MAX_RANGES];
        private final int[] rangeTowns = new int[MAX_RANGES];
        private final int[] rangeCarriers = new int[MAX_RANGES];
        private int streets;
        private int towns;
        private int unitWords;
        private int ranges;

        int sizeOf(int part) {
            return part == STREET ? streets : towns;
        }

        boolean has(int part, int number) {
            return number >= 0 && number < sizeOf(part);
        }

        int namesOf(int part, int number) {
            return part == STREET ? at(streetSizes, number) : 1;
        }

        int nameOf(int part, int number, int i) {
            return part == STREET ? at(streetNames, number * STREET_NAMES + i) : at(townNames, number);
        }

        int addStreet(int name) {
            streets++;
            addStreetName(streets - 1, name);
            return streets - 1;
        }

        int addStreetName(int street, int name) {
            int size = namesOf(STREET, street);
            put(streetNames, street * STREET_NAMES + size, name);
            put(streetSizes, street, size + 1);
            return size + 1;
        }

        boolean streetHasName(int street, int name) {
            for (int i = 0; i < namesOf(STREET, street); i++) {
                if (nameOf(STREET, street, i) == name) return true;
            }
            return false;
        }

        int addTown(int name, int low, int high) {
            put(townNames, towns, name);
            put(townLows, towns, low);
            put(townHighs, towns, high);
            towns++;
            return towns - 1;
        }

        boolean isUnitName(int name) {
            for (int i = 0; i < unitWords; i++) {
                if (at(unitNames, i) == name) return true;
            }
            return false;
        }

        int addUnitName(int name, int bookWord) {
            put(unitNames, unitWords, name);
            put(unitBookWords, unitWords, bookWord);
            unitWords++;
            return unitWords;
        }

        /** The NAME of the UNIT WORD that is this WORD of the book. */
        int unitNameOf(int bookWord) {
            for (int i = 0; i < unitWords; i++) {
                if (at(unitBookWords, i) == bookWord) return at(unitNames, i);
            }
            return NONE;
        }

        int addRange(int street, int low, int high, int side, int town, int carrier) {
            put(rangeStreets, ranges, street);
            put(rangeLows, ranges, low);
            put(rangeHighs, ranges, high);
            put(rangeSides, ranges, side);
            put(rangeTowns, ranges, town);
            put(rangeCarriers, ranges, carrier);
            ranges++;
            return ranges - 1;
        }

        /** Town and code may be NONE: then they ask nothing. */
        int carrierOf(int street, int number, int town, int code) {
            if (street == NONE || number == NONE) return NONE;
            for (int i = 0; i < ranges; i++) {
                boolean there = at(rangeStreets, i) == street && hasNumber(i, number);
                boolean inTown = town == NONE || at(rangeTowns, i) == town;
                if (there && inTown && (code == NONE || hasCode(at(rangeTowns, i), code))) return at(rangeCarriers, i);
            }
            return NONE;
        }

        private boolean hasNumber(int range, int number) {
            if (number < at(rangeLows, range) || number > at(rangeHighs, range)) return false;
            int side = at(rangeSides, range);
            return side == ALL_SIDES || (side == ODD) == ((number & 1) == 1);
        }

        private boolean hasCode(int town, int code) {
            return code >= at(townLows, town) && code <= at(townHighs, town);
        }
    }

    /** GRAMMARS: which PARTS, in which order, and which MUST be. */
    private static final class Grammars {
        private final int[] sizes = new int[MAX_GRAMMARS];
        private final int[] orders = new int[MAX_GRAMMARS];
        private final int[] musts = new int[MAX_GRAMMARS];
        private int size;

        static boolean isGrammar(int parts, int order, int must) {
            if (parts < 1 || parts > PARTS || order < 0) return false;
            if (must < 0 || must >= (1 << parts)) return false;
            int seen = 0;
            for (int place = 0; place < parts; place++) {
                int part = partAt(order, place);
                if (part >= PARTS || ((seen >> part) & 1) == 1) return false;
                seen |= 1 << part;
            }
            return true;
        }

        int add(int parts, int order, int must) {
            put(sizes, size, parts);
            put(orders, size, order);
            put(musts, size, must);
            size++;
            return size - 1;
        }

        int sizeOf(int grammar) {
            return at(sizes, grammar);
        }

        int partOf(int grammar, int place) {
            return partAt(at(orders, grammar), place);
        }

        boolean mustBe(int grammar, int place) {
            return ((at(musts, grammar) >> place) & 1) == 1;
        }

        private static int partAt(int order, int place) {
            return (order >> (3 * place)) & 7;
        }
    }

    /** What rows of the text's WORDS cost as a NAME. */
    private static final class Fitting {
        private static final int WIDTH = NAME_WORDS + 1;

        private final Book book;
        private final Words text;

        /** Which WORD of the book each WORD of the text is. */
        private final int[] bookWord = new int[MAX_WORDS];

        /** What each WORD of the text costs as each WORD of the book. */
        private final int[] wordCosts = new int[MAX_WORDS * BOOK_WORDS];

        /** The least cost of so many WORDS of a row gone through, by so many of the NAME. */
        private final int[] costs = new int[WIDTH * WIDTH];

        Fitting(Book book, Words text) {
            this.book = book;
            this.text = text;
        }

        void prepare() {
            for (int k = 0; k < text.size; k++) {
                int like = book.wordLike(text, k);
                put(bookWord, k, like);
                for (int word = 0; word < book.bookWords; word++) {
                    int others = hasOneSlip(k, word) ? COST_SLIP : NEVER;
                    put(wordCosts, k * BOOK_WORDS + word, word == like ? 0 : others);
                }
            }
        }

        int bookWordOf(int k) {
            return at(bookWord, k);
        }

        /** Goes through a NAME with all rows that begin at a WORD; a row has no more WORDS than the NAME. */
        void walk(int name, int start) {
            Arrays.fill(costs, NEVER);
            put(costs, 0, 0);
            int longest = Math.min(book.sizeOf(name), text.size - start);
            for (int taken = 0; taken < longest; taken++) {
                for (int done = taken; done < book.sizeOf(name); done++) {
                    if (at(costs, taken * WIDTH + done) < NEVER) step(name, start + taken, taken, done);
                }
            }
        }

        /** The cost of the row of so many WORDS in the latest walk. */
        int costOf(int name, int length) {
            return length >= 0 && length < WIDTH ? at(costs, length * WIDTH + book.sizeOf(name)) : NEVER;
        }

        private void step(int name, int k, int taken, int done) {
            int soFar = at(costs, taken * WIDTH + done);
            int wordCost = at(wordCosts, k * BOOK_WORDS + book.wordOf(name, done));
            if (wordCost < NEVER) lower(taken + 1, done + 1, soFar + wordCost);
            int word = at(bookWord, k);
            if (word == NONE) return;
            for (int i = 0; i < book.shorts; i++) {
                int reach = book.shortReach(i, word, name, done);
                if (reach > 0) lower(taken + 1, done + reach, soFar + COST_SHORT);
            }
        }

        private void lower(int taken, int done, int cost) {
            int cell = taken * WIDTH + done;
            if (cost < at(costs, cell)) put(costs, cell, cost);
        }

        /** One SLIP is where what is alike from ahead and from behind leaves just one SIGN of the longer WORD. */
        private boolean hasOneSlip(int k, int word) {
            int have = text.lengthOf(k);
            int want = book.lengthOf(word);
            int longer = Math.max(have, want);
            int shorter = Math.min(have, want);
            if (want < SLIP_FROM || longer - shorter > 1) return false;
            int ahead = 0;
            for (int i = 0; i < shorter && text.signAt(k, i) == book.signAt(word, i); i++) ahead++;
            int behind = 0;
            for (int i = 1; i <= shorter - ahead && text.signAt(k, have - i) == book.signAt(word, want - i); i++) behind++;
            return ahead + behind == longer - 1;
        }
    }

    /** For each row of the text's WORDS the least cost of a STREET or TOWN, and the first that has it. */
    private static final class Rows {
        private final int[] costs = new int[MAX_WORDS * NAME_WORDS];
        private final int[] numbers = new int[MAX_WORDS * NAME_WORDS];

        void fill(int part, Places places, Fitting fitting, int words) {
            Arrays.fill(costs, NEVER);
            Arrays.fill(numbers, NONE);
            for (int number = 0; number < places.sizeOf(part); number++) {
                for (int i = 0; i < places.namesOf(part, number); i++) {
                    int name = places.nameOf(part, number, i);
                    for (int start = 0; start < words; start++) {
                        fitting.walk(name, start);
                        lower(name, number, start, fitting);
                    }
                }
            }
        }

        int costOf(int start, int length) {
            return length >= 1 && length <= NAME_WORDS ? at(costs, cell(start, length)) : NEVER;
        }

        int numberOf(int start, int length) {
            return length >= 1 && length <= NAME_WORDS ? at(numbers, cell(start, length)) : NONE;
        }

        /** Only a lower cost changes what stands, so that the first of several as cheap ones stays. */
        private void lower(int name, int number, int start, Fitting fitting) {
            for (int length = 1; length <= NAME_WORDS; length++) {
                int cost = fitting.costOf(name, length);
                if (cost >= costOf(start, length)) continue;
                put(costs, cell(start, length), cost);
                put(numbers, cell(start, length), number);
            }
        }

        private static int cell(int start, int length) {
            return start * NAME_WORDS + length - 1;
        }
    }

    /**
     * Finds THE READING. A way to deal WORDS out is one long: its cost above, below it the marks of the
     * WORDS, the first WORD's highest; so the least long is THE READING, but for STREET and TOWN, and
     * these the rows give: of one row the cheapest place is the same whatever stands around it.
     */
    private static final class Reader {
        private static final int MARK_BITS = 3, COST_SHIFT = MARK_BITS * MAX_WORDS, WIDTH = PARTS + 1;
        private static final long NO_WAY = 1L << 62;

        private final Words text;
        private final Places places;
        private final Grammars grammars;
        private final Fitting fitting;
        private final Deliveries deliveries;
        private final Rows streetRows = new Rows();
        private final Rows townRows = new Rows();

        /** The NAME of the UNIT WORD that each WORD is. */
        private final int[] unitNames = new int[MAX_WORDS];

        /** The least way to deal the WORDS from one on out to the PARTS from one place on. */
        private final long[] ways = new long[(MAX_WORDS + 1) * WIDTH];
        private long best;
        private long latest;
        private int latestWords;

        Reader(Words text, Places places, Grammars grammars, Fitting fitting, Deliveries deliveries) {
            this.text = text;
            this.places = places;
            this.grammars = grammars;
            this.fitting = fitting;
            this.deliveries = deliveries;
        }

        boolean findBest(int grammar) {
            fitting.prepare();
            for (int k = 0; k < text.size; k++) put(unitNames, k, places.unitNameOf(fitting.bookWordOf(k)));
            streetRows.fill(STREET, places, fitting, text.size);
            townRows.fill(TOWN, places, fitting, text.size);
            for (int k = text.size; k >= 0; k--) {
                for (int place = grammars.sizeOf(grammar); place >= 0; place--) {
                    putWay(k, place, leastWay(grammar, k, place));
                }
            }
            best = wayAt(0, 0);
            return best != NO_WAY;
        }

        void keepBest() {
            latest = best;
            latestWords = text.size;
        }

        int latestCost() {
            return (int) (latest >> COST_SHIFT);
        }

        int latestMark(int k) {
            return k >= 0 && k < latestWords ? markOf(latest, k, latestWords) : NONE;
        }

        /** Makes the draft of the deliveries what the best way reads. */
        void describe(int grammar) {
            deliveries.clearDraft();
            for (int place = 0; place < grammars.sizeOf(grammar); place++) {
                int start = NONE;
                int length = 0;
                for (int k = text.size - 1; k >= 0; k--) {
                    if (markOf(best, k, text.size) != place) continue;
                    start = k;
                    length++;
                }
                if (length > 0) describePart(grammars.partOf(grammar, place), start, length);
            }
        }

        private void describePart(int part, int start, int length) {
            deliveries.draft(part, 1);
            switch (part) {
                case NUMBER:
                    deliveries.draft(Deliveries.NUMBER_AT, text.numberOf(start));
                    deliveries.draft(Deliveries.LETTER_AT, text.letterOf(start));
                    break;
                case STREET:
                    deliveries.draft(Deliveries.STREET_AT, streetRows.numberOf(start, length));
                    break;
                case UNIT:
                    describeUnit(start);
                    break;
                case TOWN:
                    deliveries.draft(Deliveries.TOWN_AT, townRows.numberOf(start, length));
                    break;
                default:
                    deliveries.draft(Deliveries.CODE_AT, text.numberOf(start));
            }
        }

        private void describeUnit(int start) {
            int signs = text.lengthOf(start + 1);
            deliveries.draft(Deliveries.UNIT_AT, at(unitNames, start));
            deliveries.draft(Deliveries.SIGNS_AT, signs);
            for (int i = 0; i < signs; i++) deliveries.draft(Deliveries.FIRST_SIGN + i, text.signAt(start + 1, i));
        }

        private long leastWay(int grammar, int k, int place) {
            int places = grammars.sizeOf(grammar);
            if (k == text.size && place == places) return 0;
            long least = NO_WAY;
            if (k < text.size) least = plus(wayAt(k + 1, place), COST_LEFT, marks(LEFT, k, 1));
            if (place == places) return least;
            if (!grammars.mustBe(grammar, place)) {
                least = Math.min(least, plus(wayAt(k, place + 1), COST_ABSENT, 0));
            }
            int part = grammars.partOf(grammar, place);
            for (int length = 1; length <= NAME_WORDS && length <= text.size - k; length++) {
                int cost = rowCost(part, k, length);
                if (cost >= NEVER) continue;
                long rest = wayAt(k + length, place + 1);
                least = Math.min(least, plus(rest, cost + breakCost(k, length), marks(place, k, length)));
            }
            return least;
        }

        private long wayAt(int k, int place) {
            int cell = k * WIDTH + place;
            return cell >= 0 && cell < ways.length ? ways[cell] : NO_WAY;
        }

        private void putWay(int k, int place, long way) {
            int cell = k * WIDTH + place;
            if (cell >= 0 && cell < ways.length) ways[cell] = way;
        }

        private static long plus(long way, int cost, long marks) {
            return way == NO_WAY ? NO_WAY : way + ((long) cost << COST_SHIFT) + marks;
        }

        private long marks(int value, int start, int length) {
            long all = 0;
            for (int k = start; k < start + length; k++) all += (long) value << (MARK_BITS * (text.size - 1 - k));
            return all;
        }

        private static int markOf(long way, int k, int words) {
            return (int) (way >> (MARK_BITS * (words - 1 - k))) & 7;
        }

        private int rowCost(int part, int start, int length) {
            switch (part) {
                case NUMBER: return length == 1 && text.isNumber(start) ? 0 : NEVER;
                case STREET: return streetRows.costOf(start, length);
                case UNIT: return length == 2 && isUnit(start) ? 0 : NEVER;
                case TOWN: return townRows.costOf(start, length);
                case CODE: return length == 1 && text.isCode(start) ? 0 : NEVER;
                default: return NEVER;
            }
        }

        private boolean isUnit(int k) {
            return at(unitNames, k) != NONE && text.lengthOf(k + 1) <= UNIT_SIGNS;
        }

        private int breakCost(int start, int length) {
            int cost = 0;
            for (int k = start + 1; k < start + length; k++) cost += COST_BREAK * text.breakAhead(k);
            return cost;
        }
    }

    /** DELIVERIES: a row of fields each, the first 13 of them as of() tells them, then the UNIT's SIGNS. */
    private static final class Deliveries {
        private static final int NUMBER_AT = 5, LETTER_AT = 6, STREET_AT = 7, UNIT_AT = 8, SIGNS_AT = 9;
        private static final int TOWN_AT = 10, CODE_AT = 11, TIMES = 12, FIRST_SIGN = 13;
        private static final int WIDTH = FIRST_SIGN + UNIT_SIGNS;

        private final int[] fields = new int[MAX_DELIVERIES * WIDTH];
        private final int[] drafted = new int[WIDTH];
        private int size;

        boolean has(int delivery) {
            return delivery >= 0 && delivery < size;
        }

        int get(int delivery, int field) {
            return field >= 0 && field < WIDTH ? at(fields, delivery * WIDTH + field) : NONE;
        }

        int unitSignAt(int delivery, int i) {
            if (!has(delivery) || i < 0 || i >= get(delivery, SIGNS_AT)) return NONE;
            return get(delivery, FIRST_SIGN + i);
        }

        void clearDraft() {
            Arrays.fill(drafted, NONE);
            for (int part = 0; part < PARTS; part++) put(drafted, part, 0);
        }

        void draft(int field, int value) {
            put(drafted, field, value);
        }

        /** The number of the DELIVERY that the draft is, which is READ once more; FULL if there is no room. */
        int keepDraft() {
            for (int delivery = 0; delivery < size; delivery++) {
                if (!isDrafted(delivery)) continue;
                put(fields, delivery * WIDTH + TIMES, get(delivery, TIMES) + 1);
                return delivery;
            }
            if (size >= MAX_DELIVERIES) return FULL;
            draft(TIMES, 1);
            for (int i = 0; i < WIDTH; i++) put(fields, size * WIDTH + i, at(drafted, i));
            size++;
            return size - 1;
        }

        private boolean isDrafted(int delivery) {
            for (int i = 0; i < WIDTH; i++) {
                if (i != TIMES && get(delivery, i) != at(drafted, i)) return false;
            }
            return true;
        }
    }

    /** Writes THE CANONICAL line; counts on behind the last UNIT that has room, so that FULL can be told. */
    private static final class Scribe {
        private final Book book;
        private final Places places;
        private final Deliveries deliveries;
        private final int[] units = new int[MAX_UNITS];
        private int size;

        Scribe(Book book, Places places, Deliveries deliveries) {
            this.book = book;
            this.places = places;
            this.deliveries = deliveries;
        }

        int get(int i) {
            return i < size ? at(units, i) : NONE;
        }

        void write(int delivery) {
            size = 0;
            for (int part = 0; part < PARTS; part++) {
                if (deliveries.get(delivery, part) != 1) continue;
                if (size > 0) writeUnit(BLANK);
                writePart(delivery, part);
            }
        }

        private void writePart(int delivery, int part) {
            switch (part) {
                case NUMBER:
                    writeFigures(deliveries.get(delivery, Deliveries.NUMBER_AT), 1);
                    writeLetter(deliveries.get(delivery, Deliveries.LETTER_AT));
                    break;
                case STREET:
                    writeName(places.nameOf(STREET, deliveries.get(delivery, Deliveries.STREET_AT), 0), true);
                    break;
                case UNIT:
                    writeName(deliveries.get(delivery, Deliveries.UNIT_AT), false);
                    writeUnit(BLANK);
                    writeUnitSigns(delivery);
                    break;
                case TOWN:
                    writeName(places.nameOf(TOWN, deliveries.get(delivery, Deliveries.TOWN_AT), 0), true);
                    break;
                default:
                    writeFigures(deliveries.get(delivery, Deliveries.CODE_AT), FIGURES);
            }
        }

        private void writeLetter(int letter) {
            if (letter > 0) writeUnit(letter);
        }

        private void writeUnitSigns(int delivery) {
            int signs = deliveries.get(delivery, Deliveries.SIGNS_AT);
            for (int i = 0; i < signs; i++) writeSign(deliveries.unitSignAt(delivery, i));
        }

        private void writeName(int name, boolean raised) {
            for (int k = 0; k < book.sizeOf(name); k++) {
                if (k > 0) writeUnit(BLANK);
                int word = book.wordOf(name, k);
                for (int i = 0; i < book.lengthOf(word); i++) {
                    int sign = book.signAt(word, i);
                    writeSign(raised && i == 0 && isSmallLetter(sign) ? sign - CASE_STEP : sign);
                }
            }
        }

        /** With 0s ahead where the number has fewer figures than wanted. */
        private void writeFigures(int number, int wanted) {
            for (int behind = FIGURES - 1; behind >= 0; behind--) {
                int ahead = number;
                for (int i = 0; i < behind; i++) ahead /= 10;
                if (ahead > 0 || behind < wanted) writeUnit(48 + ahead % 10);
            }
        }

        private void writeSign(int sign) {
            if (sign < FIRST_PAIRED) {
                writeUnit(sign);
            } else {
                writeUnit(FIRST_HALVES + (sign - FIRST_PAIRED) / HALF_SIZE);
                writeUnit(SECOND_HALVES + (sign - FIRST_PAIRED) % HALF_SIZE);
            }
        }

        private void writeUnit(int unit) {
            put(units, size, unit);
            size++;
        }
    }
}
