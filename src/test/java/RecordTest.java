/** Promise 10: record. */
public final class RecordTest {
    public static void main(String[] args) {
        RuleTracer x = Check.with("e0{!a}");
        Check.missing("none", x::record);
        for (int n = 1; n <= 6; n++) {
            put(x, n);
        }
        Check.same("six", x.count(4), 6);
        Check.same("none LOST", x.count(5), 0);
        put(x, 7);
        put(x, 8);
        Check.same("still six", x.count(4), 6);
        Check.same("two LOST", x.count(5), 2);
        Check.same("the oldest that is there", x.record(), 3.0);
        Check.same("the next", x.record(), 4.0);
        Check.same("four left", x.count(4), 4);
        put(x, 9);
        for (int n = 5; n <= 9; n++) {
            Check.same("in their order", x.record(), (double) n);
        }
        Check.missing("none left", x::record);
        Check.missing("still none", x::record);
        put(x, -0.0);
        Check.same("again one", x.record(), -0.0);
        Check.same("LOST stays", x.count(5), 2);
        manyOfOneRule();
        Check.finish("RecordTest");
    }

    private static void manyOfOneRule() {
        RuleTracer x = Check.with("e0{!1;!2;!3;!4;!5;!6;!7;!8;!9;!10}");
        x.fire(0, false, 0, 0.0, 0.0, 0.0);
        x.fire(0, false, 0, 0.0, 0.0, 0.0);
        Check.same("LOST", x.count(5), 14);
        for (int n = 5; n <= 10; n++) {
            Check.same("the latest six", x.record(), (double) n);
        }
        Check.missing("none left", x::record);
    }

    private static void put(RuleTracer x, double value) {
        x.fire(0, false, 0, value, 0.0, 0.0);
    }
}
