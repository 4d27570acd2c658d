import java.util.ArrayList;
import java.util.List;

/** Looks at an object, each for itself within the 512 calls that one may be used for. */
enum Looks {
    SIZES {
        @Override String at(PostalLines x) {
            List<Integer> seen = new ArrayList<>();
            for (int what = 0; what <= 9; what++) seen.add(x.count(what));
            return seen.toString();
        }
    },
    THE_LINE {
        @Override String at(PostalLines x) {
            return Check.lineOf(x);
        }
    },
    WORDS {
        @Override String at(PostalLines x) {
            return x.words() + " " + Check.wordsOf(x);
        }
    },
    THE_LATEST_READING {
        @Override String at(PostalLines x) {
            return x.cost() + " " + Check.marksOf(x);
        }
    },
    DELIVERIES {
        @Override String at(PostalLines x) {
            List<Integer> seen = new ArrayList<>();
            int size = x.count(8);
            for (int delivery = 0; delivery < size; delivery++) {
                if (delivery >= 8 && delivery < size - 8) continue;
                for (int what = 0; what <= 12; what++) seen.add(x.of(delivery, what));
            }
            return seen.toString();
        }
    },
    CARRIERS_AND_UNITS {
        @Override String at(PostalLines x) {
            List<Integer> seen = new ArrayList<>();
            for (int delivery = 0; delivery < x.count(8); delivery++) {
                seen.add(x.carrier(delivery));
                for (int i = 0; i < 4; i++) seen.add(x.unitSign(delivery, i));
            }
            return seen.toString();
        }
    },
    FITTING {
        @Override String at(PostalLines x) {
            List<Integer> seen = new ArrayList<>();
            for (int street = 0; street < x.count(3); street++) seen.add(x.fits(0, street));
            for (int town = 0; town < x.count(4); town++) seen.add(x.fits(1, town));
            return seen.toString();
        }
    },
    OTHER_NAMES {
        @Override String at(PostalLines x) {
            List<Integer> seen = new ArrayList<>();
            for (int street = 0; street < Math.min(6, x.count(3)); street++) {
                for (int name = 0; name < 8; name++) seen.add(x.also(street, name));
            }
            return seen.toString();
        }
    },
    SHORTS {
        @Override String at(PostalLines x) {
            List<Integer> seen = new ArrayList<>();
            for (int a = 0; a < 7; a++) {
                for (int b = 0; b < 7; b++) seen.add(x.shorten(a, b));
            }
            return seen.toString();
        }
    },
    UNIT_WORDS_AND_NAMES {
        @Override String at(PostalLines x) {
            List<Integer> seen = new ArrayList<>();
            for (int name = 0; name < 20; name++) seen.add(x.unit(name));
            seen.add(x.name());
            Check.line(x, "new name");
            seen.add(x.name());
            return seen.toString();
        }
    },
    FOLDS {
        @Override String at(PostalLines x) {
            List<Integer> seen = new ArrayList<>();
            int[] signs = {-1, 0, 97, 98, 120, 200, 229, 230, 55295, 55296, 57343, 57344, 1114111, 1114112};
            for (int sign : signs) seen.add(x.fold(sign, 97, -1));
            return seen.toString();
        }
    },
    READING {
        @Override String at(PostalLines x) {
            List<String> seen = new ArrayList<>();
            for (int grammar = 0; grammar < 8; grammar++) {
                seen.add(x.read(grammar) + " " + x.cost() + " " + Check.marksOf(x));
            }
            return seen.toString();
        }
    },
    CANONICAL_LINES {
        @Override String at(PostalLines x) {
            List<String> seen = new ArrayList<>();
            for (int delivery = 0; delivery < Math.min(3, x.count(8)); delivery++) {
                seen.add(x.canonical(delivery) + " " + Check.lineOf(x));
            }
            return seen.toString();
        }
    };

    abstract String at(PostalLines x);
}
