/** FIRING and promise 5, sentence by sentence. */
public final class FiringBoundsTest {
    private static final double[] NOT_ZERO = {Double.MIN_VALUE, -Double.MIN_VALUE, 1.0, -1.0, 1000.0, -1000.0};

    public static void main(String[] args) {
        sites();
        entriesAndExits();
        threads();
        handedOver();
        handedOverReachesTheRule();
        thoseThatAreOn();
        inOrder();
        conditionZero();
        conditionElse();
        withoutCondition();
        settingForTheThread();
        eachActionDoesItsOwn();
        goingOnZero();
        goingOnElse();
        failureEndsItsRule();
        whatWasDoneBeforeStays();
        answersHowManyWereMet();
        firingsThatDidAny();
        Check.finish("FiringBoundsTest");
    }

    private static void sites() {
        Check.sentence("SITES 0 .. 7");
        for (int site : new int[] {Integer.MIN_VALUE, -8, -1, 8, 9, 15, Integer.MAX_VALUE}) {
            RuleTracer x = Check.with("e7{u=1}");
            Check.put(x, 1, "e0{u=1}");
            Check.bad("entry of " + site, () -> x.fire(site, false, 0, 0.0, 0.0, 0.0));
            Check.bad("exit of " + site, () -> x.fire(site, true, 0, 0.0, 0.0, 0.0));
            Check.same("nothing was done", x.variable(0, 0), 0.0);
            Check.same("no FIRING", x.count(7), 0);
        }
        for (int site = 0; site <= 7; site++) {
            RuleTracer x = Check.with("e" + site + "{u=1}");
            Check.same("entry of " + site, x.fire(site, false, 0, 0.0, 0.0, 0.0), 1);
        }
    }

    /** A RULE for each of the 16, and a FIRING at each of the 16. */
    private static void entriesAndExits() {
        Check.sentence("each with an entry and an exit");
        for (int put = 0; put < 16; put++) {
            RuleTracer x = Check.with((put % 2 == 0 ? "e" : "x") + put / 2 + "{u=u+1}");
            for (int fired = 0; fired < 16; fired++) {
                int met = x.fire(fired / 2, fired % 2 != 0, 0, 0.0, 0.0, 0.0);
                Check.same("put behind " + put + ", fired at " + fired, met, put == fired ? 1 : 0);
            }
            Check.same("done once", x.variable(0, 0), 1.0);
        }
    }

    private static void threads() {
        Check.sentence("THREADS 0 .. 3");
        for (int thread : new int[] {Integer.MIN_VALUE, -1, 4, 5, Integer.MAX_VALUE}) {
            RuleTracer x = Check.with("e0{x=1;u=1}");
            Check.bad("THREAD " + thread, () -> x.fire(0, false, thread, 0.0, 0.0, 0.0));
            Check.same("nothing was done", x.variable(0, 0), 0.0);
            Check.same("no MEETING", x.count(30), 0);
        }
        for (int thread = 0; thread <= 3; thread++) {
            RuleTracer x = Check.with("e0{!k}");
            Check.same("THREAD " + thread, x.fire(0, false, thread, 0.0, 0.0, 0.0), 1);
            Check.same("k", x.record(), (double) thread);
        }
    }

    private static void handedOver() {
        Check.sentence("with a, b, c (-1000.0 .. 1000.0)");
        double out = Math.nextUp(1000.0);
        double[] wrong = {out, -out, 1001.0, -1001.0, 1e9, -1e9, Double.MAX_VALUE, -Double.MAX_VALUE,
            Double.POSITIVE_INFINITY, Double.NEGATIVE_INFINITY, Double.NaN};
        RuleTracer x = Check.with("e0{u=u+1}");
        for (double value : wrong) {
            Check.bad("a = " + value, () -> x.fire(0, false, 0, value, 0.0, 0.0));
            Check.bad("b = " + value, () -> x.fire(0, false, 0, 0.0, value, 0.0));
            Check.bad("c = " + value, () -> x.fire(0, false, 0, 0.0, 0.0, value));
            Check.bad("where no RULE is: " + value, () -> x.fire(1, true, 0, value, 0.0, 0.0));
        }
        Check.same("nothing was done", x.variable(0, 0), 0.0);
        Check.same("no FIRING", x.count(7), 0);
        Check.same("no MEETING", x.count(30), 0);
    }

    private static void handedOverReachesTheRule() {
        Check.sentence("with a, b, c (-1000.0 .. 1000.0)");
        double in = Math.nextDown(1000.0);
        RuleTracer x = Check.with("e0{!a;!b;!c}");
        for (double value : new double[] {1000.0, -1000.0, in, -in, 0.0, -0.0, Double.MIN_VALUE}) {
            Check.same("a = " + value, x.fire(0, false, 0, value, 1.0, 2.0), 1);
            hasRecords(x, value, 1.0, 2.0);
            Check.same("b = " + value, x.fire(0, false, 0, 1.0, value, 2.0), 1);
            hasRecords(x, 1.0, value, 2.0);
            Check.same("c = " + value, x.fire(0, false, 0, 1.0, 2.0, value), 1);
            hasRecords(x, 1.0, 2.0, value);
        }
        x.fire(0, false, 0, 7.0, 8.0, 9.0);
        Check.bad("refused", () -> x.fire(0, false, 0, 4.0, 5.0, 1001.0));
        hasRecords(x, 7.0, 8.0, 9.0);
    }

    private static void hasRecords(RuleTracer x, double... due) {
        for (double value : due) {
            Check.same("the RECORD", x.record(), value);
        }
        Check.same("no other", x.count(4), 0);
    }

    /** Six RULES that each add a digit of their own to u. */
    private static RuleTracer six() {
        RuleTracer x = new RuleTracer();
        for (int k = 5; k >= 0; k--) {
            Check.compile(x, k, "e0{u=u*10+" + (k + 1) + "}");
        }
        return x;
    }

    /** All 64 ways in which six RULES may be on. */
    private static void thoseThatAreOn() {
        Check.sentence("all RULES for it that are on, in order, are done");
        for (int mask = 0; mask < 64; mask++) {
            RuleTracer x = six();
            double due = 0.0;
            for (int k = 0; k < 6; k++) {
                if ((mask >> k & 1) != 0) {
                    x.turn(k, true);
                    due = due * 10.0 + k + 1;
                }
            }
            Check.same("MET with " + mask, Check.fire(x), Integer.bitCount(mask));
            Check.same("u with " + mask, x.variable(0, 0), due);
            for (int k = 0; k < 6; k++) {
                Check.same("MEETINGS of " + k + " with " + mask, x.count(30 + k), mask >> k & 1);
            }
        }
    }

    private static void inOrder() {
        Check.sentence("all RULES for it that are on, in order, are done");
        RuleTracer x = six();
        for (int k : new int[] {3, 5, 0, 4, 2, 1}) {
            x.turn(k, true);
        }
        Check.same("all are MET", Check.fire(x), 6);
        Check.same("not in the order of turning", x.variable(0, 0), 123456.0);
    }

    private static void conditionZero() {
        Check.sentence("the CONDITION is worked out; 0.0: that's all");
        for (double zero : new double[] {0.0, -0.0}) {
            RuleTracer x = Check.with("e0/a/{u=1;!1;@A[1]=1}");
            Check.same("not MET", Check.fire(x, zero), 0);
            Check.same("u", x.variable(0, 0), 0.0);
            Check.same("RECORDS", x.count(4), 0);
            Check.same("KEYS", x.count(8), 0);
            Check.same("MEETINGS", x.count(30), 0);
            Check.same("FAILURES", x.count(20), 0);
        }
        RuleTracer x = Check.with("e0/1>2/{u=1}");
        Check.put(x, 1, "e0{v=1}");
        Check.same("the next RULE is done", Check.fire(x), 1);
        Check.same("v", x.variable(1, 0), 1.0);
    }

    private static void conditionElse() {
        Check.sentence("else (or without one) it's MET, and its ACTIONS are done in order");
        for (double value : NOT_ZERO) {
            RuleTracer x = Check.with("e0/a/{u=u+1;v=u+1;w=v+1}");
            Check.same("MET with " + value, Check.fire(x, value), 1);
            Check.same("MEETINGS", x.count(30), 1);
            Check.same("u", x.variable(0, 0), 1.0);
            Check.same("v", x.variable(1, 0), 2.0);
            Check.same("w", x.variable(2, 0), 3.0);
        }
    }

    private static void withoutCondition() {
        Check.sentence("else (or without one) it's MET, and its ACTIONS are done in order");
        RuleTracer x = Check.with("e0{w=v+1;v=u+1;u=u+1}");
        for (int n = 1; n <= 3; n++) {
            Check.same("MET", Check.fire(x), 1);
            Check.same("MEETINGS", x.count(30), n);
            Check.same("u", x.variable(0, 0), (double) n);
            Check.same("v", x.variable(1, 0), (double) n);
            Check.same("w", x.variable(2, 0), (double) n);
        }
    }

    private static void settingForTheThread() {
        Check.sentence("SETTING: that becomes E (x .. z for the THREAD)");
        String names = "uvwxyz";
        for (int set = 0; set < 6; set++) {
            for (int thread = 0; thread < 4; thread++) {
                RuleTracer x = Check.with("e0{" + names.charAt(set) + "=a}");
                x.fire(0, false, thread, 5.5, 0.0, 0.0);
                for (int number = 0; number < 6; number++) {
                    for (int of = 0; of < 4; of++) {
                        boolean due = number == set && (set < 3 || of == thread);
                        Check.same(names.charAt(set) + " set by " + thread + ", " + number + " of " + of,
                            x.variable(number, of), due ? 5.5 : 0.0);
                    }
                }
            }
        }
    }

    /** Of a GLOBAL, a THREAD's, a KEY and a RECORD, each ACTION changes one at most. */
    private static void eachActionDoesItsOwn() {
        Check.sentence("its ACTIONS are done in order");
        String[] actions = {"v=4", "y=4", "@B[1]=4", "!4", "?4", "?0"};
        for (int n = 0; n < actions.length; n++) {
            RuleTracer x = Check.with("e0{" + actions[n] + "}");
            Check.same(actions[n], x.fire(0, false, 2, 7.0, 7.0, 7.0), 1);
            for (int number = 0; number < 6; number++) {
                boolean set = n == 0 && number == 1 || n == 1 && number == 4;
                Check.same(actions[n] + ": variable " + number, x.variable(number, 2), set ? 4.0 : 0.0);
            }
            Check.same(actions[n] + ": KEYS of A", x.count(8), 0);
            Check.same(actions[n] + ": KEYS of B", x.count(9), n == 2 ? 1 : 0);
            Check.same(actions[n] + ": KEYS of C", x.count(10), 0);
            Check.same(actions[n] + ": RECORDS", x.count(4), n == 3 ? 1 : 0);
            Check.same(actions[n] + ": LOST", x.count(5), 0);
            Check.same(actions[n] + ": DROPPED", x.count(6), 0);
            Check.same(actions[n] + ": FAILURES", x.count(20), 0);
        }
    }

    private static void goingOnZero() {
        Check.sentence("GOING ON: if E is 0.0, that's all of this RULE");
        for (double zero : new double[] {0.0, -0.0}) {
            RuleTracer x = Check.with("e0{u=1;?a;v=1}");
            Check.put(x, 1, "e0{w=1}");
            Check.same("both are MET", Check.fire(x, zero), 2);
            Check.same("before it", x.variable(0, 0), 1.0);
            Check.same("behind it", x.variable(1, 0), 0.0);
            Check.same("the next RULE", x.variable(2, 0), 1.0);
            Check.same("no FAILURE", x.count(20), 0);
            Check.same("a MEETING", x.count(30), 1);
        }
        RuleTracer x = Check.with("e0{?0}");
        Check.same("as its only ACTION", Check.fire(x), 1);
        x = Check.with("e0{u=1;?0}");
        Check.same("as its last", Check.fire(x), 1);
        Check.same("what was done before", x.variable(0, 0), 1.0);
    }

    private static void goingOnElse() {
        Check.sentence("GOING ON: if E is 0.0, that's all of this RULE");
        for (double value : NOT_ZERO) {
            RuleTracer x = Check.with("e0{?a;v=1;?v;w=1}");
            Check.same("MET", Check.fire(x, value), 1);
            Check.same("behind it", x.variable(1, 0), 1.0);
            Check.same("behind the second", x.variable(2, 0), 1.0);
        }
    }

    /** Each of six RULES in turn fails: the five others are done all the same. */
    private static void failureEndsItsRule() {
        Check.sentence("A FAILURE is all of this RULE, too, and is counted for it");
        for (int failing = 0; failing < 6; failing++) {
            RuleTracer x = new RuleTracer();
            for (int k = 0; k < 6; k++) {
                Check.put(x, k, k == failing ? "e0{u=u+100;v=1:0;u=u+100}" : "e0{u=u+1}");
            }
            for (int n = 1; n <= 3; n++) {
                Check.same("all are MET", Check.fire(x), 6);
                Check.same("u", x.variable(0, 0), 105.0 * n);
                for (int k = 0; k < 6; k++) {
                    Check.same("FAILURES of " + k, x.count(20 + k), k == failing ? n : 0);
                    Check.same("MEETINGS of " + k, x.count(30 + k), n);
                }
            }
        }
    }

    private static void whatWasDoneBeforeStays() {
        Check.sentence("what was done before stays");
        RuleTracer x = Check.with("e0{u=2;y=3;@A[4]=5;!6;v=1:a;u=9;!9}");
        x.fire(0, false, 1, 0.0, 0.0, 0.0);
        Check.same("a GLOBAL", x.variable(0, 0), 2.0);
        Check.same("a THREAD's", x.variable(4, 1), 3.0);
        Check.same("a value", x.gathered(0, 4, 0), 5.0);
        Check.same("RECORDS", x.count(4), 1);
        Check.same("a RECORD", x.record(), 6.0);
        Check.same("what failed", x.variable(1, 0), 0.0);
        x = Check.with("e0{v=a;v=1:(v-5)}");
        Check.fire(x, 5.0);
        Check.same("the earlier setting of the same", x.variable(1, 0), 5.0);
    }

    private static void answersHowManyWereMet() {
        Check.sentence("Answers how many RULES were MET");
        RuleTracer x = new RuleTracer();
        Check.same("nothing is there", Check.fire(x), 0);
        for (int k = 0; k < 6; k++) {
            Check.put(x, k, "e0/a>" + k + "/{u=1:b}");
        }
        for (int met = 0; met <= 6; met++) {
            Check.same("with a = " + met, x.fire(0, false, 0, met, 1.0, 0.0), met);
            Check.same("though they fail, with a = " + met, x.fire(0, false, 0, met, 0.0, 0.0), met);
        }
    }

    private static void firingsThatDidAny() {
        Check.sentence("FIRINGS that did any RULE (7)");
        RuleTracer x = new RuleTracer();
        Check.fire(x);
        Check.same("no RULE there", x.count(7), 0);
        Check.compile(x, 0, "e0/a/{u=1:b}");
        Check.fire(x);
        Check.same("one, but off", x.count(7), 0);
        x.turn(0, true);
        x.fire(0, true, 0, 0.0, 0.0, 0.0);
        x.fire(1, false, 0, 0.0, 0.0, 0.0);
        Check.same("one for elsewhere", x.count(7), 0);
        Check.fire(x, 0.0);
        Check.same("one that isn't MET is done too", x.count(7), 1);
        Check.fire(x, 1.0);
        Check.same("one that fails", x.count(7), 2);
        Check.put(x, 1, "e0{u=1}");
        Check.fire(x, 0.0);
        Check.same("two count once", x.count(7), 3);
        Check.bad("refused", () -> Check.fire(x, 1001.0));
        Check.same("a refused one is none", x.count(7), 3);
        x.turn(0, false);
        x.turn(1, false);
        Check.fire(x, 1.0);
        Check.same("all off", x.count(7), 3);
    }
}
