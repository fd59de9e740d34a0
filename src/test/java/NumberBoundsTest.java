import java.util.NoSuchElementException;

/** Promises 6 and 7, tick and variable, and of every method which exceptions it throws and where. */
public final class NumberBoundsTest {
    private static final int[] FAR = {Integer.MIN_VALUE, Integer.MIN_VALUE + 1, -1000, -256, 256, 1000,
        Integer.MAX_VALUE - 1, Integer.MAX_VALUE};

    public static void main(String[] args) {
        timeAtFirst();
        ticks();
        wrongTicks();
        timeInRules();
        variablesAtFirst();
        numbers();
        anyThread();
        threadsOfTheirOwn();
        outOfRangeIsBad();
        whatIsNotThereIsMissing();
        Check.finish("NumberBoundsTest");
    }

    private static void timeAtFirst() {
        Check.sentence("THE TIME, 0 at first");
        Check.same("by 1", new RuleTracer().tick(1), 1);
        RuleTracer x = Check.with("e0{!t}");
        Check.fire(x);
        Check.same("t", x.record(), 0.0);
    }

    private static void ticks() {
        Check.sentence("THE TIME goes on by n (1 .. 100). Answers it");
        RuleTracer x = new RuleTracer();
        int due = 0;
        for (int n = 1; n <= 100; n++) {
            due += n;
            Check.same("tick(" + n + ")", x.tick(n), due);
        }
    }

    private static void wrongTicks() {
        Check.sentence("THE TIME goes on by n (1 .. 100)");
        RuleTracer x = new RuleTracer();
        x.tick(50);
        for (int n : new int[] {-100, -1, 0, 101, 102}) {
            Check.bad("tick(" + n + ")", () -> x.tick(n));
        }
        for (int n : FAR) {
            Check.bad("tick(" + n + ")", () -> x.tick(n));
        }
        Check.same("THE TIME stayed", x.tick(1), 51);
        Check.same("the greatest", x.tick(100), 151);
    }

    private static void timeInRules() {
        Check.sentence("t, THE TIME");
        RuleTracer x = Check.with("e0{!t}");
        int due = 0;
        for (int n : new int[] {1, 100, 99, 2}) {
            due += n;
            x.tick(n);
            Check.fire(x);
            Check.same("t", x.record(), (double) due);
            Check.bad("refused", () -> x.tick(0));
            Check.fire(x);
            Check.same("t as before", x.record(), (double) due);
        }
    }

    private static void variablesAtFirst() {
        Check.sentence("GLOBALS u, v, w, and for each THREAD x, y, z, doubles, 0.0 at first");
        RuleTracer x = new RuleTracer();
        for (int number = 0; number < 6; number++) {
            for (int thread = 0; thread < 4; thread++) {
                Check.same("variable(" + number + ", " + thread + ")", x.variable(number, thread), 0.0);
            }
        }
        for (char name = 'u'; name <= 'z'; name++) {
            RuleTracer y = Check.with("e0{!" + name + "}");
            y.fire(0, false, 3, 9.0, 9.0, 9.0);
            Check.same("in a RULE: " + name, y.record(), 0.0);
        }
    }

    /** Where each of the 15 variables holds a number of its own. */
    private static RuleTracer allSet() {
        RuleTracer x = Check.with("e0{u=1;v=2;w=3;x=a+4;y=a+5;z=a+6}");
        for (int thread = 0; thread < 4; thread++) {
            x.fire(0, false, thread, 10.0 * thread, 0.0, 0.0);
        }
        return x;
    }

    private static void numbers() {
        Check.sentence("GLOBAL u .. w (number 0 .. 2, any thread) or x .. z (3 .. 5) of the THREAD");
        RuleTracer x = allSet();
        for (int number : new int[] {-7, -2, -1, 6, 7, 18}) {
            Check.bad("variable(" + number + ", 0)", () -> x.variable(number, 0));
            Check.bad("variable(" + number + ", 3)", () -> x.variable(number, 3));
            Check.bad("variable(" + number + ", 4)", () -> x.variable(number, 4));
        }
        for (int number : FAR) {
            Check.bad("variable(" + number + ", 0)", () -> x.variable(number, 0));
        }
    }

    private static void anyThread() {
        Check.sentence("GLOBAL u .. w (number 0 .. 2, any thread)");
        RuleTracer x = allSet();
        for (int number = 0; number < 3; number++) {
            for (int thread = -3; thread <= 6; thread++) {
                Check.same("GLOBAL " + number + " for " + thread, x.variable(number, thread), number + 1.0);
            }
            for (int thread : FAR) {
                Check.same("GLOBAL " + number + " for " + thread, x.variable(number, thread), number + 1.0);
            }
        }
    }

    private static void threadsOfTheirOwn() {
        Check.sentence("or x .. z (3 .. 5) of the THREAD");
        RuleTracer x = allSet();
        for (int number = 3; number < 6; number++) {
            int asked = number;
            for (int thread = 0; thread < 4; thread++) {
                Check.same(number + " of " + thread, x.variable(number, thread), 10.0 * thread + number + 1.0);
            }
            for (int thread : new int[] {-2, -1, 4, 5}) {
                Check.bad(number + " of " + thread, () -> x.variable(asked, thread));
            }
            for (int thread : FAR) {
                Check.bad(number + " of " + thread, () -> x.variable(asked, thread));
            }
        }
    }

    private static String thrown(Check.Call call) {
        try {
            call.make();
            return "nothing";
        } catch (RuntimeException e) {
            return e.getClass().getSimpleName();
        }
    }

    private static String due(boolean bad, boolean missing) {
        return bad ? IllegalArgumentException.class.getSimpleName()
            : missing ? NoSuchElementException.class.getSimpleName() : "nothing";
    }

    private static boolean within(int number, int end) {
        return number >= 0 && number < end;
    }

    /** A new object, and one with RULE 1 and KEY 2 of A, as long as each is asked little. */
    private static RuleTracer someThere() {
        RuleTracer x = new RuleTracer();
        Check.put(x, 1, "e0{@A[2]=3;!4}");
        Check.fire(x);
        return x;
    }

    private static void outOfRangeIsBad() {
        Check.sentence("\"Bad\" is IllegalArgumentException: a number out of range");
        int[] numbers = {Integer.MIN_VALUE, -2, -1, 0, 1, 2, 3, 4, 5, 6, 7, 8, 9, 100, 101, Integer.MAX_VALUE};
        for (int one : numbers) {
            RuleTracer x = someThere();
            Check.same("tick(" + one + ")", thrown(() -> x.tick(one)), due(one < 1 || one > 100, false));
            Check.same("turn(" + one + ")", thrown(() -> x.turn(one, true)), due(!within(one, 6), one != 1));
            Check.same("count(" + one + ")", thrown(() -> x.count(one)), "nothing");
            Check.type(x, "e0{!1}");
            Check.same("compile(" + one + ")", thrown(() -> x.compile(one)), due(!within(one, 6), false));
            for (int two : numbers) {
                outOfRangeIsBad(someThere(), one, two);
            }
        }
    }

    private static void outOfRangeIsBad(RuleTracer x, int one, int two) {
        String both = "(" + one + ", " + two + ")";
        Check.same("fire" + both, thrown(() -> x.fire(one, false, two, 0.0, 0.0, 0.0)),
            due(!within(one, 8) || !within(two, 4), false));
        Check.same("variable" + both, thrown(() -> x.variable(one, two)),
            due(!within(one, 6) || one >= 3 && !within(two, 4), false));
        Check.same("gathered" + both, thrown(() -> x.gathered(one, 2, two)),
            due(!within(one, 3) || !within(two, 4), one != 0));
        Check.same("many" + both, thrown(() -> x.many(one, 2, two)), due(!within(one, 3) || !within(two, 9), one != 0));
    }

    private static void whatIsNotThereIsMissing() {
        Check.sentence("\"Missing\" is java.util.NoSuchElementException");
        RuleTracer x = someThere();
        Check.same("record()", thrown(x::record), "nothing");
        Check.same("record() again", thrown(x::record), due(false, true));
        for (int k = 0; k < 6; k++) {
            int rule = k;
            Check.same("turn(" + k + ", false)", thrown(() -> x.turn(rule, false)), due(false, k != 1));
        }
        for (int key : new int[] {Integer.MIN_VALUE, -2, 0, 1, 2, 3, Integer.MAX_VALUE}) {
            Check.same("gathered(0, " + key + ", 0)", thrown(() -> x.gathered(0, key, 0)), due(false, key != 2));
            Check.same("many(0, " + key + ", 0)", thrown(() -> x.many(0, key, 0)), due(false, key != 2));
        }
    }
}
