/** Promises 1 and 11, a new object and count, sentence by sentence. */
public final class CountBoundsTest {
    public static void main(String[] args) {
        nothingIsThere();
        nothingIsShared();
        elseMinusTwo();
        elseMinusTwoOfAFullOne();
        textLength();
        rulesAndOn();
        recordsAndLost();
        dropped();
        keysOfEach();
        failuresOfEach();
        meetingsOfEach();
        minusOneIfNone();
        Check.finish("CountBoundsTest");
    }

    private static int atFirst(int what) {
        if (what == 0 || what >= 20 && what <= 25 || what >= 30 && what <= 35) {
            return -1;
        }
        return what >= 1 && what <= 10 ? 0 : -2;
    }

    private static void nothingIsThere() {
        Check.sentence("Nothing is there");
        RuleTracer x = new RuleTracer();
        for (int what = -60; what <= 120; what++) {
            Check.same("count(" + what + ")", x.count(what), atFirst(what));
        }
        for (int place = 0; place < 16; place++) {
            Check.same("fire at " + place, x.fire(place / 2, place % 2 == 0, 0, 1.0, 1.0, 1.0), 0);
        }
        Check.missing("record", x::record);
        Check.bad("an empty text", () -> x.compile(0));
        Check.same("THE PLACE of it", x.count(0), 0);
        for (int what = 1; what <= 40; what++) {
            Check.same("count(" + what + ") again", x.count(what), atFirst(what));
        }
    }

    /** One object filled between the making of two others. */
    private static void nothingIsShared() {
        Check.sentence("Nothing is there");
        RuleTracer before = new RuleTracer();
        RuleTracer x = full();
        RuleTracer after = new RuleTracer();
        Check.same("the full one's RULES", x.count(2), 6);
        for (RuleTracer other : new RuleTracer[] {before, after}) {
            for (int what = 0; what <= 40; what++) {
                Check.same("count(" + what + ")", other.count(what), atFirst(what));
            }
            for (int number = 0; number < 6; number++) {
                Check.same("variable " + number, other.variable(number, 1), 0.0);
            }
            Check.missing("a KEY", () -> other.gathered(0, 0, 0));
            Check.same("THE TIME", other.tick(1), 1);
        }
    }

    /** All that can be full is full, and something of it has been LOST and DROPPED. */
    private static RuleTracer full() {
        RuleTracer x = new RuleTracer();
        Check.bad("unreadable", () -> Check.compile(x, 0, "e0{u=1;w}"));
        Check.put(x, 0, "e0{u=a;v=a;w=a;x=a;y=a;z=a}");
        Check.put(x, 1, "e0{@A[a]=a;@B[a]=a;@C[a]=a}");
        Check.put(x, 2, "e0{!1;!2;!3;!4;!5;!6;!7;!8}");
        for (int k = 3; k < 6; k++) {
            Check.put(x, k, "e0{u=1:0}");
        }
        for (int a = 0; a < 6; a++) {
            x.fire(0, false, 1, a, 0.0, 0.0);
        }
        x.tick(100);
        Check.type(x, "a".repeat(48));
        return x;
    }

    private static void elseMinusTwo() {
        Check.sentence("else -2");
        RuleTracer x = new RuleTracer();
        for (int what : new int[] {-1, 11, 19, 26, 29, 36, 37, -35, -20, Integer.MIN_VALUE, Integer.MAX_VALUE}) {
            Check.same("count(" + what + ")", x.count(what), -2);
        }
    }

    private static void elseMinusTwoOfAFullOne() {
        Check.sentence("else -2");
        RuleTracer x = full();
        int[] due = {8, 48, 6, 6, 6, 42, 6, 6, 4, 4, 4};
        for (int what = -40; what <= 100; what++) {
            if (what >= 0 && what <= 10) {
                Check.same("count(" + what + ")", x.count(what), due[what]);
            } else if (what >= 20 && what <= 25) {
                Check.same("count(" + what + ")", x.count(what), what < 23 ? 0 : 6);
            } else {
                Check.same("count(" + what + ")", x.count(what), what >= 30 && what <= 35 ? 6 : -2);
            }
        }
    }

    private static void textLength() {
        Check.sentence("the text's length (1)");
        RuleTracer x = new RuleTracer();
        Check.same("empty", x.count(1), 0);
        for (int length = 1; length <= 48; length++) {
            x.type('a');
            Check.same("one more", x.count(1), length);
        }
        Check.tooLong("no more", () -> x.type('a'));
        Check.same("full", x.count(1), 48);
        Check.bad("unreadable", () -> x.compile(0));
        Check.same("empty again", x.count(1), 0);
    }

    private static void rulesAndOn() {
        Check.sentence("RULES (2), on (3)");
        RuleTracer x = new RuleTracer();
        for (int k = 0; k < 6; k++) {
            Check.same("RULES", x.count(2), k);
            Check.compile(x, k, "e0{!1}");
            Check.same("RULES with one more", x.count(2), k + 1);
            Check.same("on", x.count(3), 0);
        }
        for (int k = 0; k < 6; k++) {
            x.turn(k, true);
            Check.same("on", x.count(3), k + 1);
            Check.same("RULES", x.count(2), 6);
        }
        for (int k = 0; k < 6; k++) {
            Check.compile(x, k, "e0{!1}");
            Check.same("on, with one compiled anew", x.count(3), 5 - k);
            Check.same("RULES", x.count(2), 6);
        }
    }

    private static void recordsAndLost() {
        Check.sentence("RECORDS (4), LOST (5)");
        RuleTracer x = Check.with("e0{!1}");
        for (int n = 1; n <= 9; n++) {
            Check.fire(x);
            Check.same("RECORDS", x.count(4), Math.min(n, 6));
            Check.same("LOST", x.count(5), Math.max(n - 6, 0));
        }
        for (int n = 5; n >= 0; n--) {
            x.record();
            Check.same("RECORDS with one taken", x.count(4), n);
            Check.same("LOST stays", x.count(5), 3);
        }
    }

    private static void dropped() {
        Check.sentence("values DROPPED (6)");
        RuleTracer x = Check.with("e0{@B[a]=1}");
        for (int key = 0; key < 4; key++) {
            Check.fire(x, key);
        }
        Check.same("four KEYS", x.count(6), 0);
        Check.fire(x, 3.0);
        Check.same("one of the four again", x.count(6), 0);
        for (int n = 1; n <= 3; n++) {
            Check.fire(x, 4.0);
            Check.same("a fifth", x.count(6), n);
        }
    }

    private static void keysOfEach() {
        Check.sentence("KEYS of GATHERER A, B, C (8 .. 10)");
        RuleTracer x = new RuleTracer();
        Check.put(x, 0, "e0{@A[a]=1}");
        Check.put(x, 1, "e1{@B[a]=1}");
        Check.put(x, 2, "e2{@C[a]=1}");
        int[] many = new int[3];
        for (int n = 0; n < 15; n++) {
            int g = n % 3;
            x.fire(g, false, 0, n, 0.0, 0.0);
            many[g] = Math.min(many[g] + 1, 4);
            for (int of = 0; of < 3; of++) {
                Check.same("KEYS of " + of, x.count(8 + of), many[of]);
            }
            x.fire(g, false, 0, n, 0.0, 0.0);
            Check.same("the same KEY again", x.count(8 + g), many[g]);
        }
    }

    private static void failuresOfEach() {
        Check.sentence("FAILURES of RULE what - 20 (20 .. 25)");
        RuleTracer x = new RuleTracer();
        for (int k = 0; k < 6; k++) {
            Check.put(x, k, "e0{u=1:(a>" + k + ")}");
        }
        for (int a = 0; a <= 6; a++) {
            Check.fire(x, a);
        }
        for (int k = 0; k < 6; k++) {
            Check.same("FAILURES of " + k, x.count(20 + k), k + 1);
            Check.same("MEETINGS of " + k, x.count(30 + k), 7);
        }
    }

    private static void meetingsOfEach() {
        Check.sentence("its MEETINGS (30 .. 35)");
        RuleTracer x = new RuleTracer();
        for (int k = 0; k < 6; k++) {
            Check.put(x, k, "e0/a>" + k + "/{u=1}");
        }
        for (int a = 0; a <= 6; a++) {
            Check.fire(x, a);
        }
        for (int k = 0; k < 6; k++) {
            Check.same("MEETINGS of " + k, x.count(30 + k), 6 - k);
            Check.same("FAILURES of " + k, x.count(20 + k), 0);
        }
    }

    private static void minusOneIfNone() {
        Check.sentence("-1 if it's none");
        for (int k = 0; k < 6; k++) {
            RuleTracer x = new RuleTracer();
            Check.compile(x, k, "e0{!1}");
            for (int other = 0; other < 6; other++) {
                Check.same("FAILURES of " + other, x.count(20 + other), other == k ? 0 : -1);
                Check.same("MEETINGS of " + other, x.count(30 + other), other == k ? 0 : -1);
            }
        }
    }
}
