/** Promise 9: many. */
public final class ManyTest {
    public static void main(String[] args) {
        bins();
        keysHaveTheirOwn();
        wrongInputs();
        Check.finish("ManyTest");
    }

    /** Each BIN's edges, alone. */
    private static void bins() {
        bin(-1000.0, 0);
        bin(0.0, 0);
        bin(Math.nextDown(1.0), 0);
        for (int k = 1; k <= 6; k++) {
            double from = 1 << k - 1;
            bin(from, k);
            bin(from * 1.5, k);
            bin(Math.nextDown(from * 2.0), k);
        }
        bin(64.0, 7);
        bin(127.5, 7);
        bin(128.0, 7);
        bin(1000.0, 7);
    }

    private static void bin(double value, int due) {
        RuleTracer x = Check.with("x1{@B[3]=c}");
        x.fire(1, true, 0, 0.0, 0.0, value);
        for (int i = 0; i < 8; i++) {
            Check.same(value + " in BIN " + i, x.many(1, 3, i), i == due ? 1 : 0);
        }
        Check.same(value + " in all", x.many(1, 3, 8), 1);
    }

    private static void keysHaveTheirOwn() {
        RuleTracer x = Check.with("e0{@A[k]=a;@C[k]=a*2}");
        for (int thread = 0; thread < 4; thread++) {
            for (int n = 0; n <= thread; n++) {
                x.fire(0, false, thread, 1 << thread, 0.0, 0.0);
            }
        }
        for (int thread = 0; thread < 4; thread++) {
            for (int i = 0; i < 8; i++) {
                Check.same("A's BIN " + i, x.many(0, thread, i), i == thread + 1 ? thread + 1 : 0);
                Check.same("C's BIN " + i, x.many(2, thread, i), i == thread + 2 ? thread + 1 : 0);
            }
            Check.same("in all", x.many(0, thread, 8), thread + 1);
        }
        Check.missing("B is empty", () -> x.many(1, 0, 8));
    }

    private static void wrongInputs() {
        RuleTracer x = Check.with("e0{@A[1]=1}");
        x.fire(0, false, 0, 0.0, 0.0, 0.0);
        for (int g : new int[] {-1, 3, Integer.MIN_VALUE, Integer.MAX_VALUE}) {
            Check.bad("g " + g, () -> x.many(g, 1, 0));
        }
        for (int i : new int[] {-1, 9, Integer.MIN_VALUE, Integer.MAX_VALUE}) {
            Check.bad("i " + i, () -> x.many(0, 1, i));
            Check.bad("bad comes before missing", () -> x.many(0, 2, i));
        }
        for (int key : new int[] {0, 2, -1, Integer.MIN_VALUE, Integer.MAX_VALUE}) {
            Check.missing("key " + key, () -> x.many(0, key, 8));
        }
    }
}
