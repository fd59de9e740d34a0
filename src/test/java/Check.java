import java.util.NoSuchElementException;

/** What the tests share: comparing answers with those that are due, and typing whole texts. */
final class Check {
    private static int wrong = 0;
    private static int asked = 0;
    private static String sentence = "";
    private static int sentences = 0;
    private static int askedBefore = 0;

    private Check() {
    }

    /** A call of the face; what it answers counts only where it must throw nothing. */
    interface Call {
        void make();
    }

    /** Names the document's words that the checks from here on belong to; none may go without a check. */
    static void sentence(String words) {
        needChecks();
        sentence = words;
        sentences++;
        askedBefore = asked;
    }

    private static void needChecks() {
        if (!sentence.isEmpty() && asked == askedBefore) {
            tell("no check was made");
        }
    }

    static void same(String what, long got, long due) {
        asked++;
        if (got != due) {
            tell(what + " answered " + got + ", due is " + due);
        }
    }

    /** To the bit, so that -0.0 is not 0.0. */
    static void same(String what, double got, double due) {
        asked++;
        if (Double.doubleToLongBits(got) != Double.doubleToLongBits(due)) {
            tell(what + " answered " + got + ", due is " + due);
        }
    }

    static void same(String what, String got, String due) {
        asked++;
        if (!got.equals(due)) {
            tell(what + " answered " + got + ", due is " + due);
        }
    }

    static void isTrue(String what, boolean holds) {
        asked++;
        if (!holds) {
            tell(what + " does not hold");
        }
    }

    static void bad(String what, Call call) {
        throwsExactly(what, IllegalArgumentException.class, call);
    }

    static void missing(String what, Call call) {
        throwsExactly(what, NoSuchElementException.class, call);
    }

    static void tooLong(String what, Call call) {
        throwsExactly(what, IllegalStateException.class, call);
    }

    private static void throwsExactly(String what, Class<?> due, Call call) {
        asked++;
        try {
            call.make();
        } catch (RuntimeException e) {
            if (e.getClass() != due) {
                tell(what + " threw " + e + ", due is " + due.getName());
            }
            return;
        }
        tell(what + " threw nothing, due is " + due.getName());
    }

    private static void tell(String line) {
        wrong++;
        if (wrong <= 50) {
            System.out.println(sentence.isEmpty() ? line : "\"" + sentence + "\": " + line);
        }
    }

    /** Ends the test: exit code 1 if an answer was not as due, or if none was asked for. */
    static void finish(String test) {
        needChecks();
        String of = sentences == 0 ? "" : " of " + sentences + " sentences";
        System.out.println(test + ": " + asked + " checks" + of + ", " + wrong + " wrong");
        if (wrong != 0 || asked == 0) {
            System.exit(1);
        }
    }

    /** Up to eight characters as the number that type takes. */
    static long eight(String characters) {
        long number = 0;
        for (int i = 0; i < characters.length(); i++) {
            number = number << 8 | characters.charAt(i);
        }
        return number;
    }

    static void type(RuleTracer x, String text) {
        for (int i = 0; i < text.length(); i += 8) {
            x.type(eight(text.substring(i, Math.min(text.length(), i + 8))));
        }
    }

    static int compile(RuleTracer x, int k, String text) {
        type(x, text);
        return x.compile(k);
    }

    /** Compiles the text to RULE k and turns it on. */
    static void put(RuleTracer x, int k, String text) {
        compile(x, k, text);
        x.turn(k, true);
    }

    /** Where a, b, c, the THREAD and the SITE don't matter. */
    static int fire(RuleTracer x) {
        return x.fire(0, false, 0, 0.0, 0.0, 0.0);
    }

    /** As fire, where only a matters. */
    static int fire(RuleTracer x, double a) {
        return x.fire(0, false, 0, a, 0.0, 0.0);
    }

    /** A new object with this one RULE 0, on. */
    static RuleTracer with(String text) {
        RuleTracer x = new RuleTracer();
        put(x, 0, text);
        return x;
    }
}
