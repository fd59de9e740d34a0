import java.util.ArrayDeque;
import java.util.Deque;

/** THE RECORDS and promise 10, sentence by sentence. */
public final class RecordBoundsTest {
    public static void main(String[] args) {
        atMostSix();
        theOldestIsLost();
        allWaysToPutAndTake();
        manyInOneFiring();
        ofSeveralRules();
        whatFailsIsNotPut();
        takesTheOldest();
        none();
        values();
        Check.finish("RecordBoundsTest");
    }

    private static RuleTracer recording() {
        return Check.with("e0{!a}");
    }

    private static void atMostSix() {
        Check.sentence("THE RECORDS: at most 6, the oldest first");
        for (int many = 0; many <= 20; many++) {
            RuleTracer x = recording();
            for (int n = 1; n <= many; n++) {
                Check.fire(x, n);
            }
            Check.same("RECORDS of " + many, x.count(4), Math.min(many, 6));
            Check.same("LOST of " + many, x.count(5), Math.max(many - 6, 0));
            for (int n = Math.max(many - 5, 1); n <= many; n++) {
                Check.same("in their order", x.record(), (double) n);
            }
            Check.missing("no other", x::record);
        }
    }

    private static void theOldestIsLost() {
        Check.sentence("if there are 6 the oldest is LOST");
        RuleTracer x = recording();
        for (int n = 1; n <= 5; n++) {
            Check.fire(x, n);
        }
        Check.fire(x, 6.0);
        Check.same("five and one more", x.count(5), 0);
        Check.fire(x, 7.0);
        Check.same("six and one more", x.count(5), 1);
        Check.same("still six", x.count(4), 6);
        Check.same("the second is the oldest now", x.record(), 2.0);
        Check.fire(x, 8.0);
        Check.same("there was room again", x.count(5), 1);
        Check.fire(x, 9.0);
        Check.same("and now none", x.count(5), 2);
        Check.same("the third is LOST", x.record(), 4.0);
    }

    /** So many put, then so many taken, and the same again, till the places have been used more than once. */
    private static void allWaysToPutAndTake() {
        Check.sentence("RECORDING: E is put behind THE RECORDS");
        for (int put = 1; put <= 8; put++) {
            for (int take = 0; take <= 7; take++) {
                RuleTracer x = recording();
                Deque<Double> due = new ArrayDeque<>();
                int lost = 0;
                double next = 0.0;
                for (int round = 0; round < 9; round++) {
                    for (int n = 0; n < put; n++) {
                        next++;
                        Check.fire(x, next);
                        due.add(next);
                        if (due.size() > 6) {
                            due.remove();
                            lost++;
                        }
                    }
                    takeSome(x, due, take);
                    Check.same("RECORDS", x.count(4), due.size());
                    Check.same("LOST", x.count(5), lost);
                }
            }
        }
    }

    private static void takeSome(RuleTracer x, Deque<Double> due, int take) {
        for (int n = 0; n < take; n++) {
            if (due.isEmpty()) {
                Check.missing("none left", x::record);
            } else {
                Check.same("the oldest", x.record(), due.remove().doubleValue());
            }
        }
    }

    private static void manyInOneFiring() {
        Check.sentence("if there are 6 the oldest is LOST");
        for (int many = 5; many <= 14; many++) {
            StringBuilder text = new StringBuilder("e0{!1");
            for (int n = 2; n <= many; n++) {
                text.append(";!").append(n % 10);
            }
            RuleTracer x = Check.with(text.append("}").toString());
            Check.fire(x);
            Check.same("RECORDS of " + many, x.count(4), Math.min(many, 6));
            Check.same("LOST of " + many, x.count(5), Math.max(many - 6, 0));
            for (int n = Math.max(many - 5, 1); n <= many; n++) {
                Check.same("in their order", x.record(), (double) (n % 10));
            }
        }
    }

    private static void ofSeveralRules() {
        Check.sentence("if there are 6 the oldest is LOST");
        RuleTracer x = new RuleTracer();
        for (int k = 0; k < 6; k++) {
            Check.put(x, k, "e0{!" + k + "}");
        }
        Check.fire(x);
        Check.same("six by six RULES", x.count(4), 6);
        Check.same("none LOST", x.count(5), 0);
        Check.put(x, 5, "e0{!70;!80}");
        Check.fire(x);
        Check.same("seven more", x.count(5), 7);
        for (double due : new double[] {1.0, 2.0, 3.0, 4.0, 70.0, 80.0}) {
            Check.same("the latest six", x.record(), due);
        }
    }

    private static void whatFailsIsNotPut() {
        Check.sentence("A FAILURE is all of this RULE");
        RuleTracer x = Check.with("e0{!1:a}");
        for (int n = 1; n <= 6; n++) {
            Check.fire(x, 1.0 / n);
        }
        Check.fire(x, 0.0);
        Check.same("none is LOST for it", x.count(5), 0);
        Check.same("still six", x.count(4), 6);
        Check.same("the oldest is there", x.record(), 1.0);
    }

    private static void takesTheOldest() {
        Check.sentence("Takes the oldest of THE RECORDS");
        RuleTracer x = recording();
        for (int n = 1; n <= 6; n++) {
            Check.fire(x, n);
        }
        for (int n = 1; n <= 6; n++) {
            Check.same("the oldest", x.record(), (double) n);
            Check.same("it's taken", x.count(4), 6 - n);
            Check.same("that is not LOST", x.count(5), 0);
        }
    }

    private static void none() {
        Check.sentence("None: missing");
        RuleTracer fresh = new RuleTracer();
        Check.missing("of a new object", fresh::record);
        Check.same("RECORDS", fresh.count(4), 0);
        RuleTracer x = recording();
        for (int n = 1; n <= 10; n++) {
            Check.missing("before " + n, x::record);
            Check.missing("again before " + n, x::record);
            Check.fire(x, n);
            Check.same("RECORDS", x.count(4), 1);
            Check.same("the only one", x.record(), (double) n);
            Check.same("RECORDS left", x.count(4), 0);
        }
        Check.same("LOST", x.count(5), 0);
    }

    private static void values() {
        Check.sentence("RECORDING: E is put behind THE RECORDS");
        double[] values = {0.0, -0.0, 1000.0, -1000.0, Double.MIN_VALUE, -Double.MIN_VALUE, 0.1};
        RuleTracer x = recording();
        for (double value : values) {
            Check.fire(x, value);
            Check.same("as it was", x.record(), value);
        }
        x = Check.with("e0{!100*100*100*100*10*a}");
        Check.fire(x, 1.0);
        Check.fire(x, -1.0);
        Check.same("the greatest", x.record(), 1e9);
        Check.same("the least", x.record(), -1e9);
    }
}
