/** Promise 7: variable. */
public final class VariableTest {
    private static final int[] NO_THREADS = {-1, 4, Integer.MIN_VALUE, Integer.MAX_VALUE};

    public static void main(String[] args) {
        RuleTracer x = Check.with("e0{u=a;v=a+1;w=a+2;x=a+3;y=a+4;z=a+5}");
        for (int thread = 0; thread < 4; thread++) {
            x.fire(0, false, thread, 10.0 * thread, 0.0, 0.0);
        }
        for (int number = 0; number < 3; number++) {
            for (int thread = 0; thread < 4; thread++) {
                Check.same("a GLOBAL", x.variable(number, thread), 30.0 + number);
                Check.same("a THREAD's", x.variable(number + 3, thread), 10.0 * thread + number + 3.0);
            }
            for (int thread : NO_THREADS) {
                int own = number + 3;
                Check.same("a GLOBAL, any thread", x.variable(number, thread), 30.0 + number);
                Check.bad("variable(" + own + ", " + thread + ")", () -> x.variable(own, thread));
            }
        }
        for (int number : new int[] {-1, 6, Integer.MIN_VALUE, Integer.MAX_VALUE}) {
            Check.bad("variable(" + number + ", 0)", () -> x.variable(number, 0));
        }
        Check.finish("VariableTest");
    }
}
