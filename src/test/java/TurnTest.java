/** Promise 4: turn. */
public final class TurnTest {
    public static void main(String[] args) {
        RuleTracer x = new RuleTracer();
        Check.compile(x, 0, "e0{u=u+1}");
        Check.compile(x, 5, "e0{v=v+1}");
        Check.same("off at first", fire(x), 0);
        Check.same("one is on", x.turn(0, true), 1);
        Check.same("it's MET", fire(x), 1);
        Check.same("on already", x.turn(0, true), 1);
        Check.same("two are on", x.turn(5, true), 2);
        Check.same("both are MET", fire(x), 2);
        Check.same("one is off", x.turn(0, false), 1);
        Check.same("off already", x.turn(0, false), 1);
        Check.same("the other is MET", fire(x), 1);
        Check.same("all off", x.turn(5, false), 0);
        Check.same("none is MET", fire(x), 0);
        Check.same("u", x.variable(0, 0), 2.0);
        Check.same("v", x.variable(1, 0), 2.0);
        Check.same("MEETINGS stay through off and on", x.count(30), 2);
        wrongInputs(x);
        Check.finish("TurnTest");
    }

    private static void wrongInputs(RuleTracer x) {
        for (int k : new int[] {-1, 6, Integer.MIN_VALUE, Integer.MAX_VALUE}) {
            Check.bad("turn(" + k + ", true)", () -> x.turn(k, true));
            Check.bad("turn(" + k + ", false)", () -> x.turn(k, false));
        }
        for (int k = 1; k <= 4; k++) {
            int none = k;
            Check.missing("turn on none", () -> x.turn(none, true));
            Check.missing("turn off none", () -> x.turn(none, false));
        }
        Check.same("nothing is on", x.count(3), 0);
    }

    private static int fire(RuleTracer x) {
        return x.fire(0, false, 0, 0.0, 0.0, 0.0);
    }
}
