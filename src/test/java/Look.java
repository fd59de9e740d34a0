/** All that can be seen of an object, written out. */
final class Look {
    private static final int[] KEYS = {0, 1, 2, 3};

    private Look() {
    }

    /** What can be seen without changing anything; some 190 calls. */
    static String at(RuleTracer x) {
        StringBuilder seen = new StringBuilder(counts(x));
        for (int g = 0; g < 3; g++) {
            for (int key : KEYS) {
                gatherer(x, g, key, seen);
            }
        }
        return seen.toString();
    }

    /**
     * What can be seen at all, some 280 calls; it uses the object up. To see which text there is, it is made longer by
     * the end given and compiled to RULE 5.
     */
    static String through(RuleTracer x, String end) {
        StringBuilder seen = new StringBuilder(at(x));
        for (int n = x.count(4); n > 0; n--) {
            seen.append(" record ").append(x.record());
        }
        seen.append(" time ").append(x.tick(1));
        for (int place = 0; place < 16; place++) {
            seen.append(" met ").append(x.fire(place / 2, place % 2 == 0, 1, 2.0, 3.0, 4.0));
        }
        seen.append(counts(x));
        Check.type(x, end);
        seen.append(" actions ").append(x.compile(5)).append(" on ").append(x.turn(5, true));
        for (int place = 0; place < 16; place++) {
            seen.append(" met ").append(x.fire(place / 2, place % 2 == 0, 1, 2.0, 3.0, 4.0));
        }
        return seen.append(counts(x)).toString();
    }

    private static String counts(RuleTracer x) {
        StringBuilder seen = new StringBuilder();
        for (int what = 0; what <= 35; what++) {
            if (what <= 10 || what >= 20 && what <= 25 || what >= 30) {
                seen.append(' ').append(what).append(':').append(x.count(what));
            }
        }
        for (int number = 0; number < 6; number++) {
            for (int thread = 0; thread < (number < 3 ? 1 : 4); thread++) {
                seen.append(" variable ").append(x.variable(number, thread));
            }
        }
        return seen.toString();
    }

    private static void gatherer(RuleTracer x, int g, int key, StringBuilder seen) {
        seen.append(" of ").append(g).append('[').append(key).append(']');
        try {
            for (int what = 0; what < 4; what++) {
                seen.append(' ').append(x.gathered(g, key, what));
            }
            for (int i = 0; i <= 8; i++) {
                seen.append(' ').append(x.many(g, key, i));
            }
        } catch (java.util.NoSuchElementException e) {
            seen.append(" none");
        }
    }
}
