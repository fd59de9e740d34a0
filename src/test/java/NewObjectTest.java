/** Promise 1: nothing is there. */
public final class NewObjectTest {
    public static void main(String[] args) {
        RuleTracer x = new RuleTracer();
        Check.same("count(0)", x.count(0), -1);
        for (int what = 1; what <= 10; what++) {
            Check.same("count(" + what + ")", x.count(what), 0);
        }
        for (int k = 0; k < 6; k++) {
            int rule = k;
            Check.same("failures of " + k, x.count(20 + k), -1);
            Check.same("meetings of " + k, x.count(30 + k), -1);
            Check.missing("turn(" + k + ", true)", () -> x.turn(rule, true));
        }
        for (int thread = 0; thread < 4; thread++) {
            for (int number = 0; number < 6; number++) {
                Check.same("variable(" + number + ", " + thread + ")", x.variable(number, thread), 0.0);
            }
        }
        for (int g = 0; g < 3; g++) {
            int gatherer = g;
            Check.missing("gathered(" + g + ", 0, 0)", () -> x.gathered(gatherer, 0, 0));
            Check.missing("many(" + g + ", 0, 8)", () -> x.many(gatherer, 0, 8));
        }
        for (int site = 0; site < 8; site++) {
            Check.same("fire at an entry", x.fire(site, false, 0, 1.0, 2.0, 3.0), 0);
            Check.same("fire at an exit", x.fire(site, true, 3, 1.0, 2.0, 3.0), 0);
        }
        Check.missing("record()", x::record);
        Check.same("THE TIME is 0, then 1", x.tick(1), 1);
        objectsShareNothing();
        Check.finish("NewObjectTest");
    }

    private static void objectsShareNothing() {
        RuleTracer used = Check.with("e0{u=1;x=1;@A[1]=1;!1}");
        used.fire(0, false, 0, 0.0, 0.0, 0.0);
        used.tick(9);
        Check.type(used, "abc");
        RuleTracer fresh = new RuleTracer();
        Check.same("another object's text", fresh.count(1), 0);
        Check.same("another object's RULES", fresh.count(2), 0);
        Check.same("another object's RECORDS", fresh.count(4), 0);
        Check.same("another object's KEYS", fresh.count(8), 0);
        Check.same("another object's u", fresh.variable(0, 0), 0.0);
        Check.same("another object's TIME", fresh.tick(2), 2);
    }
}
