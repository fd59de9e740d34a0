import java.util.Random;

/** Many runs of 512 calls on the class and on the Model: both must answer, or throw, the same. */
public final class ModelTest {
    private static final int RUNS = 600;
    private static final int CALLS = 512;

    private final Random random;
    private final Texts texts;
    private final RuleTracer x = new RuleTracer();
    private final Model m = new Model();
    private String typing = "";
    private int calls = 0;

    private ModelTest(long seed) {
        random = new Random(seed);
        texts = new Texts(seed);
    }

    /** A call whose answer, of whatever kind, is written out. */
    private interface Asked {
        Object ask();
    }

    public static void main(String[] args) {
        for (int run = 0; run < RUNS; run++) {
            ModelTest test = new ModelTest(run);
            while (test.calls < CALLS) {
                test.call();
            }
        }
        Check.finish("ModelTest");
    }

    private static String answer(Asked asked) {
        try {
            return String.valueOf(asked.ask());
        } catch (RuntimeException e) {
            return "throws." + e.getClass().getSimpleName();
        }
    }

    private void both(String call, Asked ours, Asked theirs) {
        calls++;
        Check.same(call, answer(ours), answer(theirs));
    }

    /** Mostly 0 .. end - 1, now and then just outside. */
    private int within(int end) {
        return random.nextInt(25) == 0 ? random.nextInt(end + 4) - 2 : random.nextInt(end);
    }

    private void call() {
        int kind = random.nextInt(100);
        if (kind < 25) {
            typeOrCompile();
        } else if (kind < 35) {
            int k = within(6);
            boolean on = random.nextInt(5) != 0;
            both("turn(" + k + ", " + on + ")", () -> x.turn(k, on), () -> m.turn(k, on));
        } else if (kind < 65) {
            fire();
        } else if (kind < 68) {
            int n = within(101);
            both("tick(" + n + ")", () -> x.tick(n), () -> m.tick(n));
        } else {
            look(kind);
        }
    }

    private void typeOrCompile() {
        if (typing.isEmpty() && random.nextInt(2) == 0) {
            int k = within(6);
            both("compile(" + k + ")", () -> x.compile(k), () -> m.compile(k));
            typing = random.nextInt(6) == 0 ? texts.spoiled() : texts.right();
            return;
        }
        int end = Math.min(typing.length(), 8);
        long plain = Check.eight(typing.substring(0, end));
        typing = typing.substring(end);
        long eight = random.nextInt(60) == 0 ? plain ^ 1L << random.nextInt(64) : plain;
        both("type(" + eight + ")", () -> x.type(eight), () -> m.type(eight));
    }

    private double value() {
        switch (random.nextInt(6)) {
            case 0: return 0.0;
            case 1: return random.nextInt(8);
            case 2: return random.nextInt(2001) - 1000;
            case 3: return random.nextInt(40) == 0 ? 1000.5 : -0.0;
            case 4: return random.nextDouble() * 2000.0 - 1000.0;
            default: return random.nextInt(100) / 8.0;
        }
    }

    private void fire() {
        int site = random.nextInt(4) == 0 ? within(8) : 0;
        boolean exit = random.nextInt(3) == 0;
        int thread = within(4);
        double a = value();
        double b = value();
        double c = value();
        both("fire(" + site + ", " + exit + ", " + thread + ", " + a + ", " + b + ", " + c + ")",
            () -> x.fire(site, exit, thread, a, b, c), () -> m.fire(site, exit, thread, a, b, c));
    }

    private void look(int kind) {
        int g = within(3);
        int key = random.nextInt(8) - 1;
        if (kind < 74) {
            int number = within(6);
            int thread = within(4);
            both("variable(" + number + ", " + thread + ")", () -> x.variable(number, thread),
                () -> m.variable(number, thread));
        } else if (kind < 80) {
            int what = within(4);
            both("gathered(" + g + ", " + key + ", " + what + ")", () -> x.gathered(g, key, what),
                () -> m.gathered(g, key, what));
        } else if (kind < 86) {
            int i = within(9);
            both("many(" + g + ", " + key + ", " + i + ")", () -> x.many(g, key, i), () -> m.many(g, key, i));
        } else if (kind < 90) {
            both("record()", x::record, m::record);
        } else {
            int what = random.nextInt(40) - 2;
            both("count(" + what + ")", () -> x.count(what), () -> m.count(what));
        }
    }
}
