/** The GATHERERS and their BINS, and promises 8 and 9, sentence by sentence. */
public final class GathererBoundsTest {
    private static final double BOUND = 1e9;
    private static final double STEP = Math.ulp(BOUND);
    private static final int[] KEYS_OF = {8, 9, 10};

    public static void main(String[] args) {
        castToInt();
        greatestKeys();
        atMostFourKeys();
        fullStillTakesItsOwn();
        droppedEndsNothing();
        droppedFromEach();
        whatFailsIsNotDropped();
        threeGatherers();
        oneByOne();
        sumAboveTheBounds();
        sumBelowTheBounds();
        sumsAreApart();
        theValueIsNotIn();
        leastAndGreatest();
        binEdges();
        binsAddUp();
        gatheredNumbers();
        gatheredNone();
        average();
        manyNumbers();
        manyNone();
        Check.finish("GathererBoundsTest");
    }

    /** A new object whose RULE gathers b for the KEY a in A, B or C. */
    private static RuleTracer gathering(int g) {
        return Check.with("e0{@" + "ABC".charAt(g) + "[a]=b;u=u+1}");
    }

    private static void gather(RuleTracer x, double key, double value) {
        x.fire(0, false, 0, key, value, 0.0);
    }

    /** A new object whose RULE gathers 1e9 * a + b for KEY 7 in B. */
    private static RuleTracer summing() {
        return Check.with("e0{@B[7]=100*100*100*100*10*a+b;u=u+1}");
    }

    private static void castToInt() {
        Check.sentence("E in [ ] is cast to int, the KEY");
        double[] keys = {0.0, -0.0, Math.nextDown(1.0), Math.nextUp(-1.0), 0.5, -0.5, Double.MIN_VALUE,
            1.0, Math.nextUp(1.0), Math.nextDown(2.0), -1.0, Math.nextDown(-1.0), Math.nextUp(-2.0), 2.0, -2.0,
            1000.0, Math.nextDown(1000.0), -1000.0, Math.nextUp(-1000.0)};
        int[] due = {0, 0, 0, 0, 0, 0, 0, 1, 1, 1, -1, -1, -1, 2, -2, 1000, 999, -1000, -999};
        for (int n = 0; n < keys.length; n++) {
            RuleTracer x = gathering(0);
            gather(x, keys[n], 3.5);
            Check.same("KEY " + keys[n], x.gathered(0, due[n], 0), 3.5);
            int beside = due[n] == 0 ? 1 : 0;
            Check.missing("KEY " + keys[n] + " isn't " + beside, () -> x.gathered(0, beside, 0));
            gather(x, due[n], 1.5);
            Check.same("the same KEY", x.count(8), 1);
        }
    }

    private static void greatestKeys() {
        Check.sentence("E in [ ] is cast to int, the KEY");
        RuleTracer x = Check.with("e0{@A[100*100*100*100*10*a+b]=c}");
        x.fire(0, false, 0, 1.0, 0.0, 1.0);
        x.fire(0, false, 0, 1.0, -STEP, 2.0);
        x.fire(0, false, 0, -1.0, 0.0, 3.0);
        x.fire(0, false, 0, -1.0, STEP, 4.0);
        Check.same("1e9", x.gathered(0, 1000000000, 0), 1.0);
        Check.same("just below", x.gathered(0, 999999999, 0), 2.0);
        Check.same("-1e9", x.gathered(0, -1000000000, 0), 3.0);
        Check.same("just above", x.gathered(0, -999999999, 0), 4.0);
        x.fire(0, false, 0, 1.0, STEP, 5.0);
        x.fire(0, false, 0, -1.0, -STEP, 6.0);
        Check.same("beyond is a FAILURE", x.count(20), 2);
        Check.same("and not DROPPED", x.count(6), 0);
    }

    private static void atMostFourKeys() {
        Check.sentence("A GATHERER has at most 4 KEYS; another one: the value is DROPPED");
        for (int g = 0; g < 3; g++) {
            int gatherer = g;
            RuleTracer x = gathering(g);
            for (int n = 1; n <= 7; n++) {
                int key = n * 10;
                gather(x, key, n);
                Check.same("KEYS", x.count(KEYS_OF[g]), Math.min(n, 4));
                Check.same("DROPPED", x.count(6), Math.max(n - 4, 0));
                if (n <= 4) {
                    Check.same("KEY " + key, x.gathered(g, key, 0), (double) n);
                } else {
                    Check.missing("KEY " + key, () -> x.gathered(gatherer, key, 0));
                    Check.missing("how many of " + key, () -> x.many(gatherer, key, 8));
                }
            }
            for (int n = 1; n <= 4; n++) {
                Check.same("KEY " + n * 10 + " as before", x.gathered(g, n * 10, 0), (double) n);
                Check.same("one value", x.many(g, n * 10, 8), 1);
            }
            Check.same("the others are empty", x.count(8) + x.count(9) + x.count(10), 4);
        }
    }

    private static void fullStillTakesItsOwn() {
        Check.sentence("A GATHERER has at most 4 KEYS; another one: the value is DROPPED");
        RuleTracer x = gathering(2);
        for (int round = 1; round <= 3; round++) {
            for (int key = -2; key <= 1; key++) {
                gather(x, key, 2.0);
                Check.same("how many of " + key, x.many(2, key, 8), round);
                Check.same("the sum of " + key, x.gathered(2, key, 0), 2.0 * round);
            }
            gather(x, 2, 2.0);
            Check.same("DROPPED", x.count(6), round);
        }
        Check.same("KEYS", x.count(10), 4);
    }

    private static void droppedEndsNothing() {
        Check.sentence("another one: the value is DROPPED");
        RuleTracer x = gathering(0);
        for (int key = 0; key < 6; key++) {
            gather(x, key, 1.0);
        }
        Check.same("the RULE goes on", x.variable(0, 0), 6.0);
        Check.same("no FAILURES", x.count(20), 0);
        Check.same("MEETINGS", x.count(30), 6);
        Check.same("DROPPED", x.count(6), 2);
    }

    private static void droppedFromEach() {
        Check.sentence("values DROPPED (6)");
        RuleTracer x = Check.with("e0{@A[a]=1;@B[a]=1;@C[a]=1}");
        for (int key = 1; key <= 6; key++) {
            gather(x, key, 0.0);
            Check.same("DROPPED of all three", x.count(6), 3 * Math.max(key - 4, 0));
        }
        Check.compile(x, 0, "e0{!1}");
        Check.same("another RULE in its place changes nothing", x.count(6), 6);
        Check.same("nor the KEYS", x.count(8), 4);
    }

    private static void whatFailsIsNotDropped() {
        Check.sentence("the other E is the value (worked out behind)");
        RuleTracer x = gathering(0);
        for (int key = 0; key < 4; key++) {
            gather(x, key, 1.0);
        }
        Check.put(x, 0, "e0{@A[9:a]=1:b;u=u+1}");
        gather(x, 0.0, 1.0);
        gather(x, 1.0, 0.0);
        gather(x, 0.0, 0.0);
        Check.same("three FAILURES", x.count(20), 3);
        Check.same("none is DROPPED", x.count(6), 0);
        Check.same("the RULE ended each time", x.variable(0, 0), 4.0);
        gather(x, 1.0, 1.0);
        Check.same("where none fails it's DROPPED", x.count(6), 1);
        Check.same("and no FAILURE", x.count(20), 3);
        RuleTracer y = Check.with("e0{@C[1<2]=a>b}");
        gather(y, 5.0, 4.0);
        Check.same("both are any E", y.gathered(2, 1, 0), 1.0);
    }

    private static void threeGatherers() {
        Check.sentence("GATHERERS A, B, C");
        for (int g = 0; g < 3; g++) {
            RuleTracer x = gathering(g);
            gather(x, 6.0, 2.5);
            for (int of = 0; of < 3; of++) {
                int asked = of;
                Check.same("KEYS", x.count(KEYS_OF[of]), of == g ? 1 : 0);
                if (of == g) {
                    Check.same("its own", x.gathered(of, 6, 0), 2.5);
                } else {
                    Check.missing("another's sum", () -> x.gathered(asked, 6, 0));
                    Check.missing("how many of another's", () -> x.many(asked, 6, 8));
                }
            }
        }
    }

    private static void oneByOne() {
        Check.sentence("their sum (0.0, then added one by one");
        double[] values = {0.1, 0.2, 0.3, 1000.0, -1000.0, 1e-17, 0.7};
        RuleTracer x = gathering(1);
        double due = 0.0;
        for (double value : values) {
            gather(x, 5.0, value);
            due += value;
            Check.same("the sum", x.gathered(1, 5, 0), due);
        }
        x = gathering(1);
        gather(x, 5.0, -0.0);
        Check.same("from 0.0 on", x.gathered(1, 5, 0), 0.0);
        Check.same("the least", x.gathered(1, 5, 1), -0.0);
    }

    private static void sumAboveTheBounds() {
        Check.sentence("above or below the bounds: a FAILURE, and the value isn't in");
        RuleTracer x = summing();
        x.fire(0, false, 0, 1.0, 0.0, 0.0);
        Check.same("at the bound", x.gathered(1, 7, 0), BOUND);
        x.fire(0, false, 0, 0.0, STEP, 0.0);
        Check.same("just above", x.count(20), 1);
        Check.same("the RULE ended", x.variable(0, 0), 1.0);
        x.fire(0, false, 0, 0.0, STEP / 2.0, 0.0);
        Check.same("so little that it stays at the bound", x.many(1, 7, 8), 2);
        x.fire(0, false, 0, 0.0, 0.0, 0.0);
        Check.same("0.0 more", x.many(1, 7, 8), 3);
        x.fire(0, false, 0, 1.0, 0.0, 0.0);
        Check.same("far above", x.count(20), 2);
        x.fire(0, false, 0, 0.0, -STEP, 0.0);
        Check.same("just below the bound", x.gathered(1, 7, 0), BOUND - STEP);
        x.fire(0, false, 0, 0.0, STEP, 0.0);
        Check.same("at the bound again", x.gathered(1, 7, 0), BOUND);
        Check.same("FAILURES", x.count(20), 2);
        Check.same("none is DROPPED", x.count(6), 0);
    }

    private static void sumBelowTheBounds() {
        Check.sentence("above or below the bounds: a FAILURE, and the value isn't in");
        RuleTracer x = summing();
        x.fire(0, false, 0, -1.0, 0.0, 0.0);
        Check.same("at the bound", x.gathered(1, 7, 0), -BOUND);
        x.fire(0, false, 0, 0.0, -STEP, 0.0);
        Check.same("just below", x.count(20), 1);
        Check.same("the RULE ended", x.variable(0, 0), 1.0);
        x.fire(0, false, 0, 0.0, -STEP / 2.0, 0.0);
        Check.same("so little that it stays at the bound", x.many(1, 7, 8), 2);
        x.fire(0, false, 0, -1.0, 0.0, 0.0);
        Check.same("far below", x.count(20), 2);
        x.fire(0, false, 0, 0.0, STEP, 0.0);
        Check.same("just above the bound", x.gathered(1, 7, 0), -BOUND + STEP);
        x.fire(0, false, 0, 0.0, -STEP, 0.0);
        Check.same("at the bound again", x.gathered(1, 7, 0), -BOUND);
        x.fire(0, false, 0, 1.0, 0.0, 0.0);
        x.fire(0, false, 0, 1.0, 0.0, 0.0);
        Check.same("FAILURES", x.count(20), 2);
        Check.same("up to the other bound", x.gathered(1, 7, 0), BOUND);
    }

    private static void sumsAreApart() {
        Check.sentence("For a KEY: how many values, their sum");
        RuleTracer x = Check.with("e0{u=100*100*100*100*10;@A[a]=u;@B[a]=-u}");
        for (int key = 0; key < 4; key++) {
            gather(x, key, 0.0);
        }
        Check.same("no FAILURES", x.count(20), 0);
        for (int key = 0; key < 4; key++) {
            Check.same("A's " + key, x.gathered(0, key, 0), BOUND);
            Check.same("B's " + key, x.gathered(1, key, 0), -BOUND);
        }
        gather(x, 3, 0.0);
        Check.same("a second one fails", x.count(20), 1);
        gather(x, 4, 0.0);
        Check.same("where it's full it's DROPPED instead", x.count(6), 2);
        Check.same("and no FAILURE", x.count(20), 1);
    }

    private static void theValueIsNotIn() {
        Check.sentence("and the value isn't in");
        RuleTracer x = summing();
        x.fire(0, false, 0, 1.0, -30.0, 0.0);
        x.fire(0, false, 0, 0.0, 20.0, 0.0);
        StringBuilder before = figures(x);
        for (double value : new double[] {11.0, 40.0, 1000.0, Math.nextUp(10.0) + STEP}) {
            x.fire(0, false, 0, 0.0, value, 0.0);
            Check.same("after " + value, figures(x).toString(), before.toString());
        }
        Check.same("FAILURES", x.count(20), 4);
        x.fire(0, false, 0, 0.0, 10.0, 0.0);
        Check.same("what has room is in", x.gathered(1, 7, 0), BOUND);
        Check.same("in all", x.many(1, 7, 8), 3);
        Check.same("the least", x.gathered(1, 7, 1), 10.0);
        RuleTracer y = summing();
        y.fire(0, false, 0, -1.0, 0.0, 0.0);
        before = figures(y);
        y.fire(0, false, 0, -1.0, 0.0, 0.0);
        y.fire(0, false, 0, 0.0, -0.5, 0.0);
        Check.same("below", figures(y).toString(), before.toString());
    }

    private static StringBuilder figures(RuleTracer x) {
        StringBuilder figures = new StringBuilder();
        for (int what = 0; what < 4; what++) {
            figures.append(x.gathered(1, 7, what)).append(' ');
        }
        for (int i = 0; i <= 8; i++) {
            figures.append(x.many(1, 7, i)).append(' ');
        }
        return figures.append(x.count(9));
    }

    private static void leastAndGreatest() {
        Check.sentence("the least, the greatest");
        double[][] rows = {{5.0}, {-5.0}, {0.0}, {5.0, Math.nextUp(5.0)}, {5.0, Math.nextDown(5.0)}, {5.0, 5.0},
            {-5.0, -3.0, -4.0}, {5.0, 3.0, 4.0}, {1.0, 2.0, 3.0}, {3.0, 2.0, 1.0}, {-1000.0, 1000.0}, {1000.0, -1000.0},
            {0.0, Double.MIN_VALUE}, {0.0, -Double.MIN_VALUE}};
        for (double[] row : rows) {
            RuleTracer x = gathering(0);
            double least = row[0];
            double greatest = row[0];
            for (double value : row) {
                gather(x, 1.0, value);
                least = Math.min(least, value);
                greatest = Math.max(greatest, value);
                Check.same("the least", x.gathered(0, 1, 1), least);
                Check.same("the greatest", x.gathered(0, 1, 2), greatest);
            }
        }
    }

    private static void inBin(double value, int due) {
        RuleTracer x = gathering(2);
        gather(x, 1.0, value);
        for (int i = 0; i <= 7; i++) {
            Check.same(value + " in BIN " + i, x.many(2, 1, i), i == due ? 1 : 0);
        }
        Check.same(value + " in all", x.many(2, 1, 8), 1);
    }

    private static void binEdges() {
        Check.sentence("0 below 1.0, k from 2 to the k-1 on up to below 2 to the k, 7 all else");
        double[] from = {1.0, 2.0, 4.0, 8.0, 16.0, 32.0, 64.0};
        for (int n = 0; n < from.length; n++) {
            inBin(Math.nextDown(from[n]), n);
            inBin(from[n], n + 1);
            inBin(Math.nextUp(from[n]), n + 1);
        }
        for (double low : new double[] {-1000.0, -64.0, -2.0, -1.0, -0.5, -0.0, 0.0, Double.MIN_VALUE, 0.5}) {
            inBin(low, 0);
        }
        for (double high : new double[] {Math.nextDown(128.0), 128.0, Math.nextUp(128.0), 256.0, 512.0, 1000.0}) {
            inBin(high, 7);
        }
        RuleTracer x = summing();
        x.fire(0, false, 0, 1.0, 0.0, 0.0);
        Check.same("1e9", x.many(1, 7, 7), 1);
        x.fire(0, false, 0, -1.0, 0.0, 0.0);
        Check.same("-1e9", x.many(1, 7, 0), 1);
    }

    private static void binsAddUp() {
        Check.sentence("how many in each of 8 BINS");
        RuleTracer x = gathering(0);
        for (int i = 0; i < 8; i++) {
            for (int n = 0; n <= i; n++) {
                gather(x, 6.0, i == 0 ? 0.25 : 1 << i - 1);
                gather(x, 4.0, i == 0 ? -7.0 : 0.75);
            }
        }
        for (int i = 0; i < 8; i++) {
            Check.same("BIN " + i, x.many(0, 6, i), i + 1);
            Check.same("the other KEY's BIN " + i, x.many(0, 4, i), i == 0 ? 36 : 0);
        }
        Check.same("in all", x.many(0, 6, 8), 36);
        Check.same("the other's in all", x.many(0, 4, 8), 36);
    }

    /** KEY 3 has the value 1.0 in A, the values 2.0 and 4.0 in B, three values in C. */
    private static RuleTracer three() {
        RuleTracer x = Check.with("e0{@A[3]=1;@B[3]=2;@B[3]=4;@C[3]=5}");
        Check.fire(x);
        Check.put(x, 0, "e0{@C[3]=6;@C[3]=10}");
        Check.fire(x);
        return x;
    }

    private static void gatheredNumbers() {
        Check.sentence("Of GATHERER g (0 .. 2) for the KEY: the sum (what 0), least (1), greatest (2)");
        RuleTracer x = three();
        double[][] due = {{1.0, 1.0, 1.0, 1.0}, {6.0, 2.0, 4.0, 3.0}, {21.0, 5.0, 10.0, 7.0}};
        for (int g = -2; g <= 4; g++) {
            for (int what = -2; what <= 5; what++) {
                int of = g;
                int asked = what;
                if (g >= 0 && g <= 2 && what >= 0 && what <= 3) {
                    Check.same("gathered(" + g + ", 3, " + what + ")", x.gathered(g, 3, what), due[g][what]);
                } else {
                    Check.bad("gathered(" + g + ", 3, " + what + ")", () -> x.gathered(of, 3, asked));
                    Check.bad("gathered(" + g + ", 0, " + what + ")", () -> x.gathered(of, 0, asked));
                }
            }
        }
        for (int far : new int[] {Integer.MIN_VALUE, Integer.MAX_VALUE}) {
            Check.bad("g " + far, () -> x.gathered(far, 3, 0));
            Check.bad("what " + far, () -> x.gathered(0, 3, far));
        }
    }

    private static void gatheredNone() {
        Check.sentence("None: missing");
        RuleTracer x = three();
        for (int key : new int[] {Integer.MIN_VALUE, -3, 0, 2, 4, Integer.MAX_VALUE}) {
            for (int what = 0; what < 4; what++) {
                int asked = what;
                Check.missing("KEY " + key, () -> x.gathered(0, key, asked));
            }
        }
        RuleTracer y = gathering(1);
        gather(y, 3.0, 1.0);
        Check.missing("an empty GATHERER", () -> y.gathered(0, 3, 0));
        Check.missing("another empty one", () -> y.gathered(2, 3, 0));
        RuleTracer z = new RuleTracer();
        for (int g = 0; g < 3; g++) {
            int of = g;
            Check.missing("KEY 0 of a new object's", () -> z.gathered(of, 0, 0));
        }
    }

    private static void average() {
        Check.sentence("the sum divided by how many (3)");
        RuleTracer x = gathering(0);
        double[] values = {1.0, 0.0, 0.0, -7.0, 6.1};
        double sum = 0.0;
        for (int n = 0; n < values.length; n++) {
            gather(x, 0.0, values[n]);
            sum += values[n];
            Check.same("of " + (n + 1), x.gathered(0, 0, 3), sum / (n + 1));
        }
    }

    private static void manyNumbers() {
        Check.sentence("Of GATHERER g for the KEY: how many values in BIN i (0 .. 7), in all (8)");
        RuleTracer x = three();
        int[][] due = {{0, 1, 0, 0, 0, 0, 0, 0, 1}, {0, 0, 1, 1, 0, 0, 0, 0, 2}, {0, 0, 0, 2, 1, 0, 0, 0, 3}};
        for (int g = -2; g <= 4; g++) {
            for (int i = -2; i <= 10; i++) {
                int of = g;
                int bin = i;
                if (g >= 0 && g <= 2 && i >= 0 && i <= 8) {
                    Check.same("many(" + g + ", 3, " + i + ")", x.many(g, 3, i), due[g][i]);
                } else {
                    Check.bad("many(" + g + ", 3, " + i + ")", () -> x.many(of, 3, bin));
                    Check.bad("many(" + g + ", 0, " + i + ")", () -> x.many(of, 0, bin));
                }
            }
        }
        for (int far : new int[] {Integer.MIN_VALUE, Integer.MAX_VALUE}) {
            Check.bad("g " + far, () -> x.many(far, 3, 0));
            Check.bad("i " + far, () -> x.many(0, 3, far));
        }
    }

    private static void manyNone() {
        Check.sentence("None: missing");
        RuleTracer x = three();
        for (int key : new int[] {Integer.MIN_VALUE, -3, 0, 2, 4, Integer.MAX_VALUE}) {
            for (int i = 0; i <= 8; i++) {
                int bin = i;
                Check.missing("KEY " + key, () -> x.many(1, key, bin));
            }
        }
        RuleTracer y = gathering(1);
        gather(y, 3.0, 1.0);
        Check.missing("an empty GATHERER", () -> y.many(0, 3, 8));
        Check.missing("another empty one", () -> y.many(2, 3, 0));
        RuleTracer z = new RuleTracer();
        for (int g = 0; g < 3; g++) {
            int of = g;
            Check.missing("KEY 0 of a new object's", () -> z.many(of, 0, 0));
        }
    }
}
