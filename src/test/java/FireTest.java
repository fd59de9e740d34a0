/** Promise 5: fire, with WORKING OUT, SETTING, GATHERING, RECORDING and GOING ON. */
public final class FireTest {
    private static final double A = 7.0;
    private static final double B = -2.5;
    private static final double C = 0.1;

    public static void main(String[] args) {
        workingOut();
        negativeZero();
        failures();
        bounds();
        placesAndThreads();
        conditions();
        order();
        settings();
        goingOn();
        aFailureEndsJustItsRule();
        gatheringFailures();
        wrongInputs();
        Check.finish("FireTest");
    }

    /** What an E comes to at TIME 12 for THREAD 3, by way of THE RECORDS. */
    private static void gives(String e, double due) {
        RuleTracer x = Check.with("e0{!" + e + "}");
        x.tick(12);
        Check.same(e + " is MET", x.fire(0, false, 3, A, B, C), 1);
        Check.same(e + " doesn't fail", x.count(20), 0);
        Check.same(e, x.record(), due);
    }

    private static void workingOut() {
        gives("0", 0.0);
        gives("999", 999.0);
        gives("007", 7.0);
        gives("a", A);
        gives("b", B);
        gives("c", C);
        gives("t", 12.0);
        gives("k", 3.0);
        gives("1+2*3", 7.0);
        gives("(1+2)*3", 9.0);
        gives("10-4-3", 3.0);
        gives("10-(4-3)", 9.0);
        gives("100:10:4", 2.5);
        gives("100:(10:4)", 40.0);
        gives("12:4*3", 9.0);
        gives("12*4:3", 16.0);
        gives("1:3", 1.0 / 3.0);
        gives("c+c+c", 0.1 + 0.1 + 0.1);
        gives("c*3", 0.1 * 3.0);
        gives("1-2*3+4", -1.0);
        gives("-a", -7.0);
        gives("--a", 7.0);
        gives("-1+3", 2.0);
        gives("-(1+3)", -4.0);
        gives("2*-3", -6.0);
        gives("2--3", 5.0);
        gives("1<2", 1.0);
        gives("2<1", 0.0);
        gives("1<1", 0.0);
        gives("1>2", 0.0);
        gives("2>1", 1.0);
        gives("1>1", 0.0);
        gives("1=1", 1.0);
        gives("1=2", 0.0);
        gives("c+c+c=3:10", 0.0);
        gives("1+1>1*1", 1.0);
        gives("(1<2)+(3>2)+(4=4)", 3.0);
        gives("a=7", 1.0);
        gives("-----1", -1.0);
        gives("(((((a+b)))))", 4.5);
        gives("1+(2*(3+(4*(5+(6)))))", 95.0);
        gives("1+2*(3-4*(5-6*(7-8*(9-10))))", 1.0 + 2.0 * (3.0 - 4.0 * (5.0 - 6.0 * 15.0)));
    }

    private static void negativeZero() {
        gives("-0", -0.0);
        gives("0+-0", 0.0);
        gives("0=-0", 1.0);
        gives("-0<0", 0.0);
        fails("1:-0");
        RuleTracer x = Check.with("e0/-0/{u=1}");
        Check.same("-0.0 is 0.0 for a CONDITION", x.fire(0, false, 0, 0.0, 0.0, 0.0), 0);
        x = Check.with("e0{u=1;?-0;u=2}");
        x.fire(0, false, 0, 0.0, 0.0, 0.0);
        Check.same("and for GOING ON", x.variable(0, 0), 1.0);
    }

    private static void fails(String e) {
        RuleTracer x = Check.with("e0{!" + e + "}");
        Check.same(e + " is MET", x.fire(0, false, 3, A, B, C), 1);
        Check.same(e + " fails", x.count(20), 1);
        Check.same(e + " is not recorded", x.count(4), 0);
    }

    private static void failures() {
        fails("1:0");
        fails("0:0");
        fails("1:(a-7)");
        fails("a:t");
        fails("1+1:0");
        fails("(1:0)*0");
        fails("0*(1:0)");
        fails("1:0<2");
        fails("2>1:0");
        fails("-(1:0)");
        fails("u:u");
    }

    private static void bounds() {
        gives("100*100*100*100*10", 1e9);
        gives("-100*100*100*100*10", -1e9);
        gives("999*999*999+999*999*3-999+2", 999.0 * 999 * 999 + 999.0 * 999 * 3 - 999 + 2);
        fails("100*100*100*100*10+1");
        fails("-100*100*100*100*10-1");
        fails("100*100*100*100*10:c");
        fails("100*100*100*100*11");
        fails("-100*100*100*100*11");
        fails("100*100*100*100*10--1");
        fails("100*100*100*100*20:20");
        fails("100*100*100*100*20>1");
        gives("100*100*100*100*10:20", 5e7);
        RuleTracer x = Check.with("e0{!100*100*100*100*10+a}");
        Check.same("fire", x.fire(0, false, 0, 1e-7, 0.0, 0.0), 1);
        Check.same("just above is a FAILURE", x.count(20), 1);
        x = Check.with("e0{u=a;u=u*u;u=u*u;u=u*u;u=u*u;!1:u}");
        x.fire(0, false, 0, 1e-30, 0.0, 0.0);
        Check.same("by what has become 0.0", x.count(20), 1);
        x = Check.with("e0{!b:a}");
        x.fire(0, false, 0, 4.9e-324, 1000.0, 0.0);
        Check.same("without end is above the bounds", x.count(20), 1);
        x.fire(0, false, 0, 4.9e-324, 4.9e-324, 0.0);
        Check.same("the least by itself", x.record(), 1.0);
    }

    private static void placesAndThreads() {
        RuleTracer x = new RuleTracer();
        Check.put(x, 0, "e2{u=u+1}");
        Check.put(x, 1, "x2{v=v+1}");
        Check.put(x, 2, "x7{w=w+1;x=x+1}");
        for (int site = 0; site < 8; site++) {
            Check.same("entry " + site, x.fire(site, false, 0, 0.0, 0.0, 0.0), site == 2 ? 1 : 0);
            Check.same("exit " + site, x.fire(site, true, 2, 0.0, 0.0, 0.0), site == 2 || site == 7 ? 1 : 0);
        }
        Check.same("u", x.variable(0, 0), 1.0);
        Check.same("v", x.variable(1, 0), 1.0);
        Check.same("w", x.variable(2, 0), 1.0);
        Check.same("x of THREAD 0", x.variable(3, 0), 0.0);
        Check.same("x of THREAD 2", x.variable(3, 2), 1.0);
        Check.same("FIRINGS that did any", x.count(7), 3);
    }

    private static void conditions() {
        RuleTracer x = Check.with("e0/a>b/{u=u+1}");
        Check.same("MET", x.fire(0, false, 0, 2.0, 1.0, 0.0), 1);
        Check.same("not MET", x.fire(0, false, 0, 1.0, 1.0, 0.0), 0);
        Check.same("u", x.variable(0, 0), 1.0);
        Check.same("MEETINGS", x.count(30), 1);
        Check.same("no FAILURE", x.count(20), 0);
        Check.same("both FIRINGS did it", x.count(7), 2);
        x = Check.with("e0/a/{u=u+1}");
        Check.same("all but 0.0 is MET", x.fire(0, false, 0, -0.5, 0.0, 0.0), 1);
        Check.same("the least too", x.fire(0, false, 0, 4.9e-324, 0.0, 0.0), 1);
        Check.same("0.0 is not", x.fire(0, false, 0, 0.0, 0.0, 0.0), 0);
        x = Check.with("e0/1:a/{u=u+1}");
        Check.same("a FAILURE is not MET", x.fire(0, false, 0, 0.0, 0.0, 0.0), 0);
        Check.same("but counted", x.count(20), 1);
        Check.same("no MEETING", x.count(30), 0);
        Check.same("the FIRING did it", x.count(7), 1);
        Check.same("nothing was done", x.variable(0, 0), 0.0);
    }

    private static void order() {
        RuleTracer x = new RuleTracer();
        Check.put(x, 5, "e0{u=u*2;!5}");
        Check.put(x, 0, "e0{u=u+1;!0}");
        Check.put(x, 3, "e0{u=u*10;!3}");
        Check.same("three are MET", x.fire(0, false, 0, 0.0, 0.0, 0.0), 3);
        Check.same("in their order", x.variable(0, 0), 20.0);
        Check.same("first 0", x.record(), 0.0);
        Check.same("then 3", x.record(), 3.0);
        Check.same("then 5", x.record(), 5.0);
        Check.put(x, 1, "e0/u=21/{v=1}");
        Check.same("a CONDITION sees what was done before", x.fire(0, false, 0, 0.0, 0.0, 0.0), 4);
        Check.same("one FIRING counts once", x.count(7), 2);
    }

    private static void settings() {
        RuleTracer x = Check.with("e0{u=1;v=2;w=3;x=a;y=x+1;z=y*u-w}");
        x.fire(0, false, 1, 10.0, 0.0, 0.0);
        x.fire(0, false, 3, 20.0, 0.0, 0.0);
        double[] one = {1.0, 2.0, 3.0, 10.0, 11.0, 8.0};
        double[] three = {1.0, 2.0, 3.0, 20.0, 21.0, 18.0};
        for (int number = 0; number < 6; number++) {
            Check.same("variable of THREAD 1", x.variable(number, 1), one[number]);
            Check.same("variable of THREAD 3", x.variable(number, 3), three[number]);
            Check.same("variable of THREAD 2", x.variable(number, 2), number < 3 ? one[number] : 0.0);
        }
        x = Check.with("e0{x=y;y=z;z=a}");
        for (int n = 1; n <= 3; n++) {
            x.fire(0, false, 2, n, 0.0, 0.0);
        }
        Check.same("x", x.variable(3, 2), 1.0);
        Check.same("y", x.variable(4, 2), 2.0);
        Check.same("z", x.variable(5, 2), 3.0);
    }

    private static void goingOn() {
        RuleTracer x = Check.with("e0{u=u+1;?a;v=v+1;?b;w=w+1}");
        Check.same("ended at the first", x.fire(0, false, 0, 0.0, 1.0, 0.0), 1);
        Check.same("ended at the second", x.fire(0, false, 0, 1.0, 0.0, 0.0), 1);
        Check.same("not ended", x.fire(0, false, 0, -1.0, 0.5, 0.0), 1);
        Check.same("u", x.variable(0, 0), 3.0);
        Check.same("v", x.variable(1, 0), 2.0);
        Check.same("w", x.variable(2, 0), 1.0);
        Check.same("no FAILURES", x.count(20), 0);
        Check.same("MEETINGS", x.count(30), 3);
    }

    private static void aFailureEndsJustItsRule() {
        RuleTracer x = new RuleTracer();
        Check.put(x, 0, "e0{u=1;v=1:a;w=9}");
        Check.put(x, 1, "e0{x=u;@A[1:a]=2;y=9}");
        Check.put(x, 2, "e0{@A[1]=1:a;y=9}");
        Check.put(x, 3, "e0{!1;?1:a;y=9}");
        Check.put(x, 4, "e0{z=4}");
        Check.same("all are MET", x.fire(0, false, 0, 0.0, 0.0, 0.0), 5);
        Check.same("what was done before stays", x.variable(0, 0), 1.0);
        Check.same("what failed is not set", x.variable(1, 0), 0.0);
        Check.same("what comes behind is not done", x.variable(2, 0), 0.0);
        Check.same("the next RULE is done", x.variable(3, 0), 1.0);
        Check.same("but not behind its FAILURE", x.variable(4, 0), 0.0);
        Check.same("the last RULE is done", x.variable(5, 0), 4.0);
        Check.same("no KEY was made", x.count(8), 0);
        Check.same("nothing was DROPPED", x.count(6), 0);
        Check.same("the RECORD stays", x.record(), 1.0);
        for (int k = 0; k < 5; k++) {
            Check.same("FAILURES of " + k, x.count(20 + k), k == 4 ? 0 : 1);
            Check.same("MEETINGS of " + k, x.count(30 + k), 1);
        }
    }

    private static void gatheringFailures() {
        RuleTracer x = Check.with("e0{@A[1]=100*100*100*100*a;u=u+1}");
        x.fire(0, false, 0, 6.0, 0.0, 0.0);
        x.fire(0, false, 0, 4.0, 0.0, 0.0);
        Check.same("up to the bounds", x.gathered(0, 1, 0), 1e9);
        x.fire(0, false, 0, 1.0, 0.0, 0.0);
        Check.same("above is a FAILURE", x.count(20), 1);
        Check.same("the sum stays", x.gathered(0, 1, 0), 1e9);
        Check.same("the least stays", x.gathered(0, 1, 1), 4e8);
        Check.same("how many stays", x.many(0, 1, 8), 2);
        Check.same("the BIN stays", x.many(0, 1, 7), 2);
        Check.same("the RULE ended", x.variable(0, 0), 2.0);
        Check.same("nothing was DROPPED", x.count(6), 0);
        x = Check.with("e0{@A[1]=100*100*100*100*a;u=u+1}");
        x.fire(0, false, 0, -10.0, 0.0, 0.0);
        x.fire(0, false, 0, -1.0, 0.0, 0.0);
        Check.same("below is a FAILURE", x.count(20), 1);
        Check.same("the sum stays", x.gathered(0, 1, 0), -1e9);
        x = Check.with("e0{@A[k]=1;@A[9]=b:a;u=u+1}");
        for (int thread = 0; thread < 4; thread++) {
            x.fire(0, false, thread, 1.0, 0.0, 0.0);
        }
        Check.same("DROPPED", x.count(6), 1);
        Check.same("what is DROPPED doesn't end the RULE", x.variable(0, 0), 4.0);
        x.fire(0, false, 0, 0.0, 1.0, 0.0);
        Check.same("what fails isn't DROPPED", x.count(20), 1);
        Check.same("still", x.count(6), 1);
    }

    private static void wrongInputs() {
        RuleTracer x = Check.with("e0{u=u+1}");
        for (int site : new int[] {-1, 8, Integer.MIN_VALUE, Integer.MAX_VALUE}) {
            Check.bad("site " + site, () -> x.fire(site, false, 0, 0.0, 0.0, 0.0));
        }
        for (int thread : new int[] {-1, 4, Integer.MIN_VALUE, Integer.MAX_VALUE}) {
            Check.bad("thread " + thread, () -> x.fire(0, false, thread, 0.0, 0.0, 0.0));
        }
        double above = Math.nextUp(1000.0);
        double[] wrong = {above, -above, 1e300, Double.NaN, Double.POSITIVE_INFINITY, Double.NEGATIVE_INFINITY};
        for (double value : wrong) {
            Check.bad("a " + value, () -> x.fire(0, false, 0, value, 0.0, 0.0));
            Check.bad("b " + value, () -> x.fire(0, false, 0, 0.0, value, 0.0));
            Check.bad("c " + value, () -> x.fire(0, false, 0, 0.0, 0.0, value));
        }
        Check.same("nothing was done", x.variable(0, 0), 0.0);
        Check.same("no FIRING", x.count(7), 0);
        Check.same("the greatest", x.fire(0, false, 3, 1000.0, 1000.0, 1000.0), 1);
        Check.same("the least", x.fire(0, false, 0, -1000.0, -1000.0, -1000.0), 1);
    }
}
