/** Promise 8: gathered. */
public final class GatheredTest {
    public static void main(String[] args) {
        figures();
        keysAreCastToInt();
        atMostFourKeys();
        sumsInTheirOrder();
        wrongInputs();
        Check.finish("GatheredTest");
    }

    private static void figures() {
        RuleTracer x = new RuleTracer();
        Check.put(x, 0, "e0{@A[a]=b}");
        Check.put(x, 1, "e0{@B[a]=-b}");
        double[] values = {3.0, -1.5, 8.25, 0.0};
        for (double value : values) {
            x.fire(0, false, 0, 5.0, value, 0.0);
        }
        x.fire(0, false, 0, -2.0, 4.0, 0.0);
        check(x, 0, 5, 9.75, -1.5, 8.25, 9.75 / 4.0);
        check(x, 1, 5, -9.75, -8.25, 1.5, -9.75 / 4.0);
        check(x, 0, -2, 4.0, 4.0, 4.0, 4.0);
        check(x, 1, -2, -4.0, -4.0, -4.0, -4.0);
        Check.missing("C is empty", () -> x.gathered(2, 5, 0));
        Check.missing("another KEY", () -> x.gathered(0, 4, 0));
    }

    private static void check(RuleTracer x, int g, int key, double... due) {
        for (int what = 0; what < 4; what++) {
            Check.same("gathered(" + g + ", " + key + ", " + what + ")", x.gathered(g, key, what), due[what]);
        }
    }

    private static void keysAreCastToInt() {
        RuleTracer x = Check.with("e0{@C[a]=b}");
        double[] keys = {0.9, -0.9, 0.0, -0.0};
        for (double key : keys) {
            x.fire(0, false, 0, key, 2.0, 0.0);
        }
        Check.same("toward 0", x.gathered(2, 0, 0), 8.0);
        x.fire(0, false, 0, -3.99, 1.0, 0.0);
        Check.same("below 0", x.gathered(2, -3, 0), 1.0);
        Check.same("KEYS", x.count(10), 2);
        x = Check.with("e0{@A[100*100*100*100*a]=7}");
        x.fire(0, false, 0, 10.0, 0.0, 0.0);
        x.fire(0, false, 0, -10.0, 0.0, 0.0);
        Check.same("the greatest KEY", x.gathered(0, 1000000000, 0), 7.0);
        Check.same("the least KEY", x.gathered(0, -1000000000, 0), 7.0);
        x = Check.with("e0{@A[1]=2;@A[1<2]=3;@B[2]=a;@A[t]=k}");
        x.tick(7);
        x.fire(0, false, 3, 4.0, 0.0, 0.0);
        Check.same("a KEY worked out", x.gathered(0, 1, 0), 5.0);
        Check.same("the GATHERER named", x.gathered(1, 2, 0), 4.0);
        Check.same("KEY t, value k", x.gathered(0, 7, 0), 3.0);
    }

    private static void atMostFourKeys() {
        RuleTracer x = Check.with("e0{@B[a]=b}");
        for (int key = 1; key <= 6; key++) {
            x.fire(0, false, 0, key, 1.0, 0.0);
        }
        Check.same("KEYS", x.count(9), 4);
        Check.same("DROPPED", x.count(6), 2);
        for (int key = 1; key <= 4; key++) {
            x.fire(0, false, 0, key, 10.0, 0.0);
            Check.same("those that are there go on", x.gathered(1, key, 0), 11.0);
        }
        Check.missing("the fifth", () -> x.gathered(1, 5, 0));
        Check.same("still", x.count(6), 2);
        Check.same("no FAILURE", x.count(20), 0);
        Check.put(x, 0, "e0{@A[a]=b;@C[a]=b}");
        x.fire(0, false, 0, 9.0, 1.0, 0.0);
        Check.same("the others have their own KEYS", x.gathered(0, 9, 0), 1.0);
        Check.same("C too", x.gathered(2, 9, 0), 1.0);
    }

    private static void sumsInTheirOrder() {
        RuleTracer x = Check.with("e0{@A[0]=a}");
        double due = 0.0;
        for (int n = 0; n < 10; n++) {
            x.fire(0, false, 0, 0.1, 0.0, 0.0);
            due += 0.1;
        }
        Check.same("the sum one by one", x.gathered(0, 0, 0), due);
        Check.same("divided by how many", x.gathered(0, 0, 3), due / 10.0);
        x = Check.with("e0{@A[0]=a}");
        x.fire(0, false, 0, -0.0, 0.0, 0.0);
        Check.same("0.0 and -0.0 added", x.gathered(0, 0, 0), 0.0);
        Check.same("the least is the value", x.gathered(0, 0, 1), -0.0);
    }

    private static void wrongInputs() {
        RuleTracer x = Check.with("e0{@A[1]=1}");
        x.fire(0, false, 0, 0.0, 0.0, 0.0);
        for (int g : new int[] {-1, 3, Integer.MIN_VALUE, Integer.MAX_VALUE}) {
            Check.bad("g " + g, () -> x.gathered(g, 1, 0));
        }
        for (int what : new int[] {-1, 4, Integer.MIN_VALUE, Integer.MAX_VALUE}) {
            Check.bad("what " + what, () -> x.gathered(0, 1, what));
            Check.bad("bad comes before missing", () -> x.gathered(0, 2, what));
        }
        for (int key : new int[] {0, 2, -1, Integer.MIN_VALUE, Integer.MAX_VALUE}) {
            Check.missing("key " + key, () -> x.gathered(0, key, 3));
        }
    }
}
