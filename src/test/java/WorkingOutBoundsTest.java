/** WORKING OUT an E, sentence by sentence: each operator at the bounds, and just on both sides of them. */
public final class WorkingOutBoundsTest {
    private static final double BOUND = 1e9;
    // The step from 1e9 to the next double, both ways.
    private static final double STEP = Math.ulp(BOUND);
    private static final double NONE = 0.0;

    public static void main(String[] args) {
        comparisons();
        leftToRight();
        opposites();
        division();
        divisionByZero();
        divisionBySmallest();
        sums();
        differences();
        products();
        quotients();
        onTheWay();
        whatIsNoOutcome();
        everywhereInARule();
        Check.finish("WorkingOutBoundsTest");
    }

    /** A new object where u is 1e9, v 2000000.0, and RULE 1 records the E at SITE 0. */
    private static RuleTracer with(String e) {
        RuleTracer x = Check.with("e1{u=100*100*100*100*10;v=100*100*200}");
        x.fire(1, false, 0, NONE, NONE, NONE);
        Check.put(x, 1, "e0{!" + e + "}");
        return x;
    }

    private static void gives(String e, double a, double b, double due) {
        RuleTracer x = with(e);
        String what = e + " with a = " + a + ", b = " + b;
        Check.same(what + " is MET", x.fire(0, false, 0, a, b, NONE), 1);
        Check.same(what + ": FAILURES", x.count(21), 0);
        Check.same(what + ": RECORDS", x.count(4), 1);
        if (x.count(4) == 1) {
            Check.same(what, x.record(), due);
        }
    }

    private static void fails(String e, double a, double b) {
        RuleTracer x = with(e);
        String what = e + " with a = " + a + ", b = " + b;
        Check.same(what + " is MET", x.fire(0, false, 0, a, b, NONE), 1);
        Check.same(what + ": FAILURES", x.count(21), 1);
        Check.same(what + ": RECORDS", x.count(4), 0);
        Check.same(what + ": the other RULE's FAILURES", x.count(20), 0);
    }

    private static void comparisons() {
        Check.sentence("< > = give 1.0 or 0.0");
        double[] middles = {0.0, -0.0, 1.0, -1.0, 999.0, -999.0, 0.1};
        for (double b : middles) {
            for (double a : new double[] {-1000.0, Math.nextDown(b), b, Math.nextUp(b), 1000.0}) {
                gives("a<b", a, b, a < b ? 1.0 : 0.0);
                gives("a>b", a, b, a > b ? 1.0 : 0.0);
                gives("a=b", a, b, a == b ? 1.0 : 0.0);
            }
        }
        gives("a=b", 0.0, -0.0, 1.0);
        gives("a<b", -0.0, 0.0, 0.0);
        gives("a>b", 0.0, -0.0, 0.0);
        gives("u=u", NONE, NONE, 1.0);
        gives("-u<u", NONE, NONE, 1.0);
    }

    private static void leftToRight() {
        Check.sentence("in doubles, as written, from left to right");
        ordered("a+b+b", 0.1, 0.9, 0.1 + 0.9 + 0.9, 0.1 + (0.9 + 0.9));
        ordered("a+(b+b)", 0.1, 0.9, 0.1 + (0.9 + 0.9), 0.1 + 0.9 + 0.9);
        ordered("a-b-b", 0.1, 0.9, 0.1 - 0.9 - 0.9, 0.1 - (0.9 + 0.9));
        ordered("a*b*b", 0.1, 1.3, 0.1 * 1.3 * 1.3, 0.1 * (1.3 * 1.3));
        ordered("a:b:b", 0.1, 0.3, 0.1 / 0.3 / 0.3, 0.1 / (0.3 * 0.3));
        ordered("a:b*b", 0.7, 0.3, 0.7 / 0.3 * 0.3, 0.7);
        ordered("a*b:b", 0.1, 0.7, 0.1 * 0.7 / 0.7, 0.1);
        gives("a+b*b", 2.0, 3.0, 11.0);
        gives("a*b+b", 2.0, 3.0, 9.0);
        gives("a-b+b", 2.0, 3.0, 2.0);
        gives("a-b:b", 2.0, 3.0, 1.0);
        gives("-a*b", 2.0, 3.0, -6.0);
        gives("-a-b", 2.0, 3.0, -5.0);
        gives("a<b+b", 4.0, 3.0, 1.0);
        gives("a+b<b", 1.0, 3.0, 0.0);
    }

    /** - of a 0.0 is the double that - gives, -0.0, and it is compared and divided by as 0.0. */
    private static void opposites() {
        Check.sentence("WORKING OUT an E, in doubles, as written");
        gives("-0", NONE, NONE, -0.0);
        gives("--0", NONE, NONE, 0.0);
        gives("---0", NONE, NONE, -0.0);
        gives("-a", 0.0, NONE, -0.0);
        gives("-a", -0.0, NONE, 0.0);
        gives("-w", NONE, NONE, -0.0);
        gives("-t", NONE, NONE, -0.0);
        gives("-k", NONE, NONE, -0.0);
        gives("-(a-a)", 3.0, NONE, -0.0);
        gives("-(1<0)", NONE, NONE, -0.0);
        gives("-0-0", NONE, NONE, -0.0);
        gives("-0+0", NONE, NONE, 0.0);
        gives("0-0", NONE, NONE, 0.0);
        gives("-0*a", 5.0, NONE, -0.0);
        gives("0*-a", 5.0, NONE, -0.0);
        gives("-0:a", 5.0, NONE, -0.0);
        gives("-0=0", NONE, NONE, 1.0);
        gives("-0<0", NONE, NONE, 0.0);
        fails("1:-0", NONE, NONE);
        gives("-a", 7.5, NONE, -7.5);
        gives("-u", NONE, NONE, -BOUND);
    }

    /** Chosen so that another order gives something else. */
    private static void ordered(String e, double a, double b, double due, double otherwise) {
        Check.isTrue(e + " tells the orders apart", due != otherwise);
        gives(e, a, b, due);
    }

    private static void division() {
        Check.sentence(": divides");
        gives("a:b", 1.0, 3.0, 1.0 / 3.0);
        gives("a:b", -7.0, 2.0, -3.5);
        gives("a:b", 0.0, -2.0, -0.0);
        gives("1:2", NONE, NONE, 0.5);
        gives("1:999", NONE, NONE, 1.0 / 999.0);
    }

    private static void divisionByZero() {
        Check.sentence("By 0.0");
        for (double a : new double[] {0.0, -0.0, 1.0, -1.0, 1000.0, -1000.0, Double.MIN_VALUE}) {
            fails("a:b", a, 0.0);
            fails("a:b", a, -0.0);
            fails("a:(b-b)", a, 3.0);
            fails("a:0", a, NONE);
            fails("a:-0", a, NONE);
            fails("a:(1<1)", a, NONE);
            fails("a:w", a, NONE);
        }
        fails("a:(b*b)", 1.0, 1e-300);
        fails("a:b:b", 1.0, 0.0);
    }

    private static void divisionBySmallest() {
        Check.sentence("By 0.0");
        gives("a:b", Double.MIN_VALUE, Double.MIN_VALUE, 1.0);
        gives("a:b", Double.MIN_VALUE, -Double.MIN_VALUE, -1.0);
        gives("a:b", 0.0, Double.MIN_VALUE, 0.0);
        gives("a:b", 0.0, -Double.MIN_VALUE, -0.0);
        gives("a:(1=1)", 5.0, NONE, 5.0);
    }

    private static void sums() {
        Check.sentence("an outcome of + - * : above 1000000000.0 or below -1000000000.0: a FAILURE");
        gives("u+a", -STEP, NONE, BOUND - STEP);
        gives("u+a", 0.0, NONE, BOUND);
        gives("u+a", STEP / 2.0, NONE, BOUND);
        fails("u+a", STEP, NONE);
        fails("u+a", 1000.0, NONE);
        fails("u+u", NONE, NONE);
        gives("a+u", 0.0, NONE, BOUND);
        fails("a+u", STEP, NONE);
        gives("-u+a", STEP, NONE, -BOUND + STEP);
        gives("-u+a", 0.0, NONE, -BOUND);
        gives("-u+a", -STEP / 2.0, NONE, -BOUND);
        fails("-u+a", -STEP, NONE);
        fails("-u+a", -1000.0, NONE);
        fails("-u+-u", NONE, NONE);
        gives("u+-u", NONE, NONE, 0.0);
    }

    private static void differences() {
        Check.sentence("an outcome of + - * : above 1000000000.0 or below -1000000000.0: a FAILURE");
        gives("u-a", STEP, NONE, BOUND - STEP);
        gives("u-a", 0.0, NONE, BOUND);
        gives("u-a", -STEP / 2.0, NONE, BOUND);
        fails("u-a", -STEP, NONE);
        fails("u--u", NONE, NONE);
        gives("-u-a", -STEP, NONE, -BOUND + STEP);
        gives("-u-a", 0.0, NONE, -BOUND);
        gives("-u-a", STEP / 2.0, NONE, -BOUND);
        fails("-u-a", STEP, NONE);
        fails("-u-u", NONE, NONE);
        gives("u-u", NONE, NONE, 0.0);
        gives("0-u", NONE, NONE, -BOUND);
        fails("a-u", -STEP, NONE);
    }

    private static void products() {
        Check.sentence("an outcome of + - * : above 1000000000.0 or below -1000000000.0: a FAILURE");
        double below = Math.nextDown(500.0);
        double above = Math.nextUp(500.0);
        gives("v*a", below, NONE, 2e6 * below);
        gives("v*a", 500.0, NONE, BOUND);
        fails("v*a", above, NONE);
        gives("v*a", -below, NONE, 2e6 * -below);
        gives("v*a", -500.0, NONE, -BOUND);
        fails("v*a", -above, NONE);
        gives("-v*a", 500.0, NONE, -BOUND);
        fails("-v*a", above, NONE);
        fails("a*v", above, NONE);
        gives("u*1", NONE, NONE, BOUND);
        fails("u*2", NONE, NONE);
        fails("u*-2", NONE, NONE);
        fails("u*u", NONE, NONE);
        gives("u*0", NONE, NONE, 0.0);
        gives("u*-1", NONE, NONE, -BOUND);
    }

    private static void quotients() {
        Check.sentence("an outcome of + - * : above 1000000000.0 or below -1000000000.0: a FAILURE");
        double below = Math.nextDown(1.0);
        double above = Math.nextUp(1.0);
        gives("u:a", above, NONE, BOUND / above);
        gives("u:a", 1.0, NONE, BOUND);
        fails("u:a", below, NONE);
        gives("u:a", -above, NONE, BOUND / -above);
        gives("u:a", -1.0, NONE, -BOUND);
        fails("u:a", -below, NONE);
        gives("-u:a", 1.0, NONE, -BOUND);
        fails("-u:a", below, NONE);
        fails("a:b", 1000.0, Double.MIN_VALUE);
        fails("a:b", -1000.0, Double.MIN_VALUE);
        fails("a:b", 1.0, 1e-10);
        gives("a:u", 1000.0, NONE, 1e-6);
        gives("u:u", NONE, NONE, 1.0);
    }

    private static void onTheWay() {
        Check.sentence("an outcome of + - * : above 1000000000.0 or below -1000000000.0: a FAILURE");
        fails("u*2:2", NONE, NONE);
        gives("u:2*2", NONE, NONE, BOUND);
        fails("u+u-u", NONE, NONE);
        gives("u-u+u", NONE, NONE, BOUND);
        fails("u+1-1", NONE, NONE);
        gives("u-1+1", NONE, NONE, BOUND);
        fails("(u+1)*0", NONE, NONE);
        fails("0*(u+1)", NONE, NONE);
        fails("-(u+1)", NONE, NONE);
        fails("u+1>0", NONE, NONE);
        fails("0<u+1", NONE, NONE);
        fails("(u*2)=(u*2)", NONE, NONE);
        fails("1+u*2", NONE, NONE);
    }

    private static void whatIsNoOutcome() {
        Check.sentence("an outcome of + - * : above 1000000000.0 or below -1000000000.0: a FAILURE");
        gives("u", NONE, NONE, BOUND);
        gives("-u", NONE, NONE, -BOUND);
        gives("--u", NONE, NONE, BOUND);
        gives("(u)", NONE, NONE, BOUND);
        gives("u>v", NONE, NONE, 1.0);
    }

    /** The same FAILURES wherever an E may stand; only RULE 1 is told of, and nothing is left of it. */
    private static void everywhereInARule() {
        Check.sentence("A FAILURE is all of this RULE, too, and is counted for it");
        for (String e : new String[] {"1:w", "u+1", "-u-1", "u*2", "v:(1:999)"}) {
            failsAsAction("w=" + e);
            failsAsAction("x=" + e);
            failsAsAction("@A[" + e + "]=1");
            failsAsAction("@A[1]=" + e);
            failsAsAction("!" + e);
            failsAsAction("?" + e);
            failsAsCondition(e);
        }
    }

    private static void failsAsAction(String action) {
        RuleTracer x = with("0");
        Check.put(x, 1, "e0{y=7;" + action + ";z=8}");
        Check.same(action + " is MET", Check.fire(x), 1);
        Check.same(action + ": FAILURES", x.count(21), 1);
        Check.same(action + ": MEETINGS", x.count(31), 1);
        Check.same(action + ": what was done before", x.variable(4, 0), 7.0);
        Check.same(action + ": what comes behind", x.variable(5, 0), 0.0);
        nothingOf(action, x);
    }

    private static void failsAsCondition(String e) {
        RuleTracer x = with("0");
        Check.put(x, 1, "e0/" + e + "/{z=8}");
        Check.same(e + " isn't MET", Check.fire(x), 0);
        Check.same(e + ": FAILURES", x.count(21), 1);
        Check.same(e + ": MEETINGS", x.count(31), 0);
        Check.same(e + ": what comes behind", x.variable(5, 0), 0.0);
        nothingOf(e, x);
    }

    private static void nothingOf(String what, RuleTracer x) {
        Check.same(what + ": w", x.variable(2, 0), 0.0);
        Check.same(what + ": x", x.variable(3, 0), 0.0);
        Check.same(what + ": KEYS", x.count(8), 0);
        Check.same(what + ": RECORDS", x.count(4), 0);
        Check.same(what + ": DROPPED", x.count(6), 0);
        Check.same(what + ": the other RULE's FAILURES", x.count(20), 0);
    }
}
