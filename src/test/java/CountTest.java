/** Promise 11: count. */
public final class CountTest {
    public static void main(String[] args) {
        RuleTracer x = new RuleTracer();
        Check.bad("a text that can't be read", () -> Check.compile(x, 0, "e0{u=1;w}"));
        Check.put(x, 0, "e0/a/{@A[k]=1;@B[1]=1;@B[2]=1;u=1:b}");
        Check.put(x, 2, "e0{@C[t]=1;!1;!2;!3;!4;@A[a+9]=1}");
        Check.put(x, 5, "x6{u=u}");
        Check.compile(x, 4, "e0{u=9}");
        x.fire(0, false, 0, 1.0, 0.0, 0.0);
        x.fire(0, false, 1, 2.0, 1.0, 0.0);
        x.fire(0, false, 2, 0.0, 0.0, 0.0);
        x.fire(0, false, 0, 1.0, 0.0, 0.0);
        x.fire(0, true, 0, 1.0, 0.0, 0.0);
        Check.type(x, "e0{");
        x.record();
        int[] due = {8, 3, 4, 3, 5, 10, 1, 4, 4, 2, 1};
        for (int what = 0; what < due.length; what++) {
            Check.same("count(" + what + ")", x.count(what), due[what]);
        }
        int[] failures = {2, -1, 0, -1, 0, 0};
        int[] meetings = {3, -1, 4, -1, 0, 0};
        for (int k = 0; k < 6; k++) {
            Check.same("FAILURES of " + k, x.count(20 + k), failures[k]);
            Check.same("MEETINGS of " + k, x.count(30 + k), meetings[k]);
        }
        int[] none = {-1, 11, 12, 19, 26, 29, 36, 40, 100, -20, Integer.MIN_VALUE, Integer.MAX_VALUE};
        for (int what : none) {
            Check.same("count(" + what + ")", x.count(what), -2);
        }
        askingChangesNothing(x);
        Check.finish("CountTest");
    }

    private static void askingChangesNothing(RuleTracer x) {
        Check.same("the text's length again", x.count(1), 3);
        Check.same("THE PLACE again", x.count(0), 8);
        Check.type(x, "w=4}");
        Check.same("the text's length", x.count(1), 7);
        Check.same("it's right", x.compile(3), 1);
        Check.same("RULES", x.count(2), 5);
        Check.same("its FAILURES", x.count(23), 0);
        Check.same("its MEETINGS", x.count(33), 0);
        Check.same("THE PLACE stays", x.count(0), 8);
    }
}
