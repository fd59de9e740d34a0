/** Promise 6: tick. */
public final class TickTest {
    public static void main(String[] args) {
        RuleTracer x = Check.with("e0{!t}");
        x.fire(0, false, 0, 0.0, 0.0, 0.0);
        Check.same("THE TIME at first", x.record(), 0.0);
        Check.same("by the least", x.tick(1), 1);
        Check.same("by the greatest", x.tick(100), 101);
        for (int n : new int[] {0, 101, -1, Integer.MIN_VALUE, Integer.MAX_VALUE}) {
            Check.bad("tick(" + n + ")", () -> x.tick(n));
        }
        Check.same("what was wrong did nothing", x.tick(2), 103);
        x.fire(0, false, 0, 0.0, 0.0, 0.0);
        Check.same("THE TIME in a RULE", x.record(), 103.0);
        RuleTracer y = new RuleTracer();
        for (int n = 1; n <= 512; n++) {
            Check.same("tick " + n, y.tick(100), 100 * n);
        }
        Check.finish("TickTest");
    }
}
