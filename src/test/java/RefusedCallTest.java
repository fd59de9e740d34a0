/** A call that is refused leaves all as it was, but that a text which can't be read is empty then. */
public final class RefusedCallTest {
    private static final int[] FAR = {Integer.MIN_VALUE, Integer.MAX_VALUE};
    // With its end it is a RULE that shows its SITE, its THREAD's z and a RECORD.
    private static final String TEXT = "x6{z=z+12";
    private static final String END = "3;!z}";

    private final String name;
    private final int filled;
    private final String due;

    private RefusedCallTest(String name, int filled) {
        this.name = name;
        this.filled = filled;
        due = Look.through(make(), filled == 2 ? "" : END);
    }

    public static void main(String[] args) {
        String[] names = {"a new object", "an object in use", "a full object"};
        for (int filled = 0; filled < names.length; filled++) {
            RefusedCallTest test = new RefusedCallTest(names[filled], filled);
            test.types();
            test.compiles();
            test.turns();
            test.fires();
            test.ticksAndVariables();
            test.gathereds();
            test.records();
        }
        unreadable();
        Check.finish("RefusedCallTest");
    }

    private RuleTracer make() {
        RuleTracer x = new RuleTracer();
        if (filled == 1) {
            Check.put(x, 0, "e0/a>1/{u=u+a;@A[k]=b;!c;v=1:b}");
            Check.compile(x, 2, "x7{w=1}");
            Check.put(x, 4, "x2{y=7;z=8;@C[1]=a;@C[2]=b}");
            x.fire(0, false, 2, 3.0, 0.0, 5.0);
            x.fire(0, false, 3, 0.0, 0.0, 5.0);
            x.fire(2, true, 1, 3.0, 70.0, 5.0);
            x.tick(17);
        } else if (filled == 2) {
            fill(x);
        }
        Check.type(x, filled == 2 ? "x6{z=z+123;!z;!1;!2;!3;!4;!5;!6;!7;!8;!9;!0;!99}" : TEXT);
        return x;
    }

    private static void fill(RuleTracer x) {
        for (int k = 0; k < 3; k++) {
            Check.put(x, k, "e" + k + "{!a;@A[a]=b;@B[b]=c;@C[a]=c;u=1:(a-3)}");
        }
        for (int k = 3; k < 6; k++) {
            Check.put(x, k, "x7/a/{x=a;y=b;z=c;u=u+1}");
        }
        for (int n = 0; n < 9; n++) {
            x.fire(n % 3, false, n % 4, n % 6, n % 5, n);
            x.fire(7, true, n % 4, n % 2, n, n + 1);
        }
        Check.bad("unreadable", () -> Check.compile(x, 5, "e0{u"));
    }

    private interface Refused {
        void by(RuleTracer x);
    }

    /** The call, twice, on an object of its own; then all that can be seen is as if it had not been made. */
    private void bad(String call, Refused refused) {
        RuleTracer x = make();
        Check.bad(call, () -> refused.by(x));
        Check.bad(call + " again", () -> refused.by(x));
        asItWas(call, x);
    }

    private void missing(String call, Refused refused) {
        RuleTracer x = make();
        Check.missing(call, () -> refused.by(x));
        Check.missing(call + " again", () -> refused.by(x));
        asItWas(call, x);
    }

    private void asItWas(String call, RuleTracer x) {
        Check.same(name + " after " + call, Look.through(x, filled == 2 ? "" : END), due);
    }

    private void types() {
        Check.sentence("One not 33 .. 126: bad; more than 48 in all: IllegalStateException; then none is added");
        long[] wrong = {1L, 32L, 127L, 128L, 255L, -1L, 0x6161_6161_6161_6120L, 0x7F61_6161_6161_6161L, Long.MIN_VALUE};
        for (long eight : wrong) {
            bad("type(" + eight + ")", x -> x.type(eight));
        }
        if (filled == 2) {
            RuleTracer x = make();
            Check.tooLong("one more", () -> x.type('a'));
            Check.tooLong("eight more", () -> x.type(0x6161_6161_6161_6161L));
            asItWas("type of too many", x);
        }
    }

    private void compiles() {
        Check.sentence("(but not where k is bad)");
        for (int k : new int[] {-1, 6}) {
            bad("compile(" + k + ")", x -> x.compile(k));
        }
        for (int k : FAR) {
            bad("compile(" + k + ")", x -> x.compile(k));
        }
    }

    private void turns() {
        Check.sentence("RULE k is on, or off. None: missing");
        for (int k : new int[] {-1, 6, FAR[0], FAR[1]}) {
            bad("turn(" + k + ", true)", x -> x.turn(k, true));
            bad("turn(" + k + ", false)", x -> x.turn(k, false));
        }
        for (int k = 0; k < 6; k++) {
            int rule = k;
            if (filled == 0 || filled == 1 && k % 2 != 0) {
                missing("turn(" + k + ", true)", x -> x.turn(rule, true));
                missing("turn(" + k + ", false)", x -> x.turn(rule, false));
            }
        }
    }

    private void fires() {
        Check.sentence("FIRING, at the exit or entry of the SITE, for the THREAD, with a, b, c (-1000.0 .. 1000.0)");
        double out = Math.nextUp(1000.0);
        for (int site : new int[] {-1, 8, FAR[0], FAR[1]}) {
            bad("fire at " + site, x -> x.fire(site, false, 0, 2.0, 0.0, 0.0));
        }
        for (int thread : new int[] {-1, 4, FAR[0], FAR[1]}) {
            bad("fire for " + thread, x -> x.fire(0, false, thread, 2.0, 0.0, 0.0));
        }
        for (double value : new double[] {out, -out, Double.NaN, Double.POSITIVE_INFINITY, Double.NEGATIVE_INFINITY}) {
            bad("fire with a = " + value, x -> x.fire(0, false, 0, value, 0.0, 0.0));
            bad("fire with b = " + value, x -> x.fire(7, true, 0, 2.0, value, 0.0));
            bad("fire with c = " + value, x -> x.fire(2, true, 0, 2.0, 0.0, value));
        }
    }

    private void ticksAndVariables() {
        Check.sentence("\"Bad\" is IllegalArgumentException: a number out of range");
        for (int n : new int[] {-1, 0, 101, FAR[0], FAR[1]}) {
            bad("tick(" + n + ")", x -> x.tick(n));
        }
        for (int number : new int[] {-1, 6, FAR[0], FAR[1]}) {
            bad("variable(" + number + ", 0)", x -> x.variable(number, 0));
        }
        for (int thread : new int[] {-1, 4, FAR[0], FAR[1]}) {
            bad("variable(3, " + thread + ")", x -> x.variable(3, thread));
            bad("variable(5, " + thread + ")", x -> x.variable(5, thread));
        }
    }

    private void gathereds() {
        Check.sentence("None: missing");
        for (int g : new int[] {-1, 3, FAR[0], FAR[1]}) {
            bad("gathered(" + g + ", 0, 0)", x -> x.gathered(g, 0, 0));
            bad("many(" + g + ", 0, 0)", x -> x.many(g, 0, 0));
        }
        for (int out : new int[] {-1, 9, FAR[0], FAR[1]}) {
            bad("gathered(0, 0, " + out + ")", x -> x.gathered(0, 0, out));
            bad("many(0, 0, " + out + ")", x -> x.many(0, 0, out));
        }
        for (int g = 0; g < 3; g++) {
            int of = g;
            missing("gathered(" + g + ", 99, 0)", x -> x.gathered(of, 99, 0));
            missing("many(" + g + ", 99, 8)", x -> x.many(of, 99, 8));
        }
    }

    private void records() {
        Check.sentence("Takes the oldest of THE RECORDS. None: missing");
        if (filled == 0) {
            missing("record()", RuleTracer::record);
        } else {
            Check.isTrue(name + " has RECORDS", make().count(4) > 0);
        }
    }

    /** With THE PLACE there already, another text that can't be read changes nothing but that it's empty. */
    private static void unreadable() {
        Check.sentence("empty then also if it's bad");
        String[] texts = {"e0{u", "e0{u+1}", "x7{z!!!!", "e0{v;u=1;@A[1]=2;!3}"};
        for (int k = 0; k < 6; k++) {
            for (String text : texts) {
                int rule = k;
                RuleTracer x = new RuleTracer();
                fill(x);
                Check.bad(text, () -> Check.compile(x, rule, text));
                RuleTracer y = new RuleTracer();
                fill(y);
                Check.same("after " + text, Look.through(x, "x6{z=1}"), Look.through(y, "x6{z=1}"));
            }
        }
    }
}
