/** What fills up or counts on, till the 512th call, which is the last that answers as promised. */
public final class LastCallTest {
    private static final int CALLS = 512;

    public static void main(String[] args) {
        time();
        variables();
        counters();
        failuresLeaveNothing();
        gathered();
        records();
        dropped();
        texts();
        refused();
        Check.finish("LastCallTest");
    }

    /** With RULE 0 on; how many calls are left is found from how many were made. */
    private static int callsFor(String text) {
        return (text.length() + 7) / 8 + 2;
    }

    private static void fireTill(RuleTracer x, int calls, int end, double a) {
        for (int n = calls; n < end; n++) {
            Check.same("call " + (n + 1), Check.fire(x, a), 1);
        }
    }

    private static void time() {
        Check.sentence("An object is used for at most 512 calls after it has been made");
        RuleTracer x = new RuleTracer();
        for (int n = 1; n <= CALLS; n++) {
            Check.same("tick " + n, x.tick(100), 100 * n);
        }
    }

    private static void variables() {
        Check.sentence("An object is used for at most 512 calls after it has been made");
        String text = "e0{u=u+1;x=x-a}";
        RuleTracer x = Check.with(text);
        int calls = callsFor(text);
        fireTill(x, calls, CALLS - 2, 1000.0);
        Check.same("u", x.variable(0, 0), CALLS - 2.0 - calls);
        Check.same("x", x.variable(3, 0), -1000.0 * (CALLS - 2.0 - calls));
    }

    private static void counters() {
        Check.sentence("An object is used for at most 512 calls after it has been made");
        String text = "e0{u=1:a}";
        RuleTracer x = Check.with(text);
        int calls = callsFor(text);
        fireTill(x, calls, CALLS - 3, 0.0);
        Check.same("FAILURES", x.count(20), CALLS - 3 - calls);
        Check.same("MEETINGS", x.count(30), CALLS - 3 - calls);
        Check.same("FIRINGS", x.count(7), CALLS - 3 - calls);
    }

    /** Each FAILURE comes while much is still to be worked out with what stands before it. */
    private static void failuresLeaveNothing() {
        Check.sentence("A FAILURE is all of this RULE, too, and is counted for it");
        String text = "e0{u=1+(2+(3+(4+(5:a))));@A[9]=1:a}";
        String other = "x1{!1+2*(3-4*(5-6*(7-8*(9-10))))}";
        RuleTracer x = Check.with(text);
        Check.put(x, 1, other);
        int calls = callsFor(text) + callsFor(other);
        for (int n = calls; n < CALLS - 5; n++) {
            Check.same("MET", Check.fire(x, 0.0), 1);
        }
        Check.same("FAILURES", x.count(20), CALLS - 5 - calls);
        Check.same("KEYS", x.count(8), 0);
        Check.same("u", x.variable(0, 0), 0.0);
        Check.same("another RULE is MET", x.fire(1, true, 0, 0.0, 0.0, 0.0), 1);
        Check.same("and worked out as ever", x.record(), 1.0 + 2.0 * (3.0 - 4.0 * (5.0 - 6.0 * 15.0)));
    }

    private static void gathered() {
        Check.sentence("An object is used for at most 512 calls after it has been made");
        String text = "e0{@A[1]=a;@A[1]=a;@A[1]=a;@A[1]=a;@A[1]=a}";
        RuleTracer x = Check.with(text);
        int calls = callsFor(text);
        fireTill(x, calls, CALLS - 6, 1000.0);
        int values = 5 * (CALLS - 6 - calls);
        Check.same("in all", x.many(0, 1, 8), values);
        Check.same("in BIN 7", x.many(0, 1, 7), values);
        Check.same("the sum", x.gathered(0, 1, 0), 1000.0 * values);
        Check.same("the average", x.gathered(0, 1, 3), 1000.0);
        Check.same("the greatest", x.gathered(0, 1, 2), 1000.0);
        Check.same("KEYS", x.count(8), 1);
    }

    private static void records() {
        Check.sentence("An object is used for at most 512 calls after it has been made");
        String text = "e0{!1;!2;!3;!4;!5;!6;!7;!8;!9;!1;!2;!3;!4;!5;!a}";
        RuleTracer x = Check.with(text);
        int calls = callsFor(text);
        fireTill(x, calls, CALLS - 8, 9.0);
        Check.same("LOST", x.count(5), 15 * (CALLS - 8 - calls) - 6);
        Check.same("RECORDS", x.count(4), 6);
        for (double due : new double[] {1.0, 2.0, 3.0, 4.0, 5.0, 9.0}) {
            Check.same("the latest six", x.record(), due);
        }
    }

    private static void dropped() {
        Check.sentence("An object is used for at most 512 calls after it has been made");
        String text = "e0{@C[1]=1;@C[2]=1;@C[3]=1;@C[4]=1;@C[5]=1}";
        RuleTracer x = Check.with(text);
        int calls = callsFor(text);
        fireTill(x, calls, CALLS - 2, 0.0);
        Check.same("DROPPED", x.count(6), CALLS - 2 - calls);
        Check.same("KEYS", x.count(10), 4);
    }

    private static void texts() {
        Check.sentence("An object is used for at most 512 calls after it has been made");
        RuleTracer x = new RuleTracer();
        for (int n = 0; n < CALLS / 2; n++) {
            boolean right = n % 3 != 0;
            Check.same("type", x.type(Check.eight(right ? "x1{!" + n % 10 + "}" : "x1{!;")), right ? 6 : 5);
            int k = n % 6;
            if (right) {
                Check.same("compile", x.compile(k), 1);
            } else {
                Check.bad("compile", () -> x.compile(k));
            }
        }
    }

    private static void refused() {
        Check.sentence("An object is used for at most 512 calls after it has been made");
        RuleTracer x = new RuleTracer();
        for (int n = 0; n < (CALLS - 2) / 5; n++) {
            Check.missing("record", x::record);
            Check.missing("turn", () -> x.turn(0, true));
            Check.bad("tick", () -> x.tick(0));
            Check.bad("fire", () -> x.fire(8, false, 0, 0.0, 0.0, 0.0));
            Check.bad("type", () -> x.type(-1L));
        }
        Check.same("THE TIME", x.tick(1), 1);
        Check.same("FIRINGS", x.count(7), 0);
    }
}
