/** Promises 3 and 4, compile and turn, sentence by sentence. */
public final class RuleBoundsTest {
    private static final int[] NO_RULE = {Integer.MIN_VALUE, -6, -1, 6, 7, 20, Integer.MAX_VALUE};
    private static final String[] UNREADABLE = {"", "e", "e8", "e0{}", "e0{!1", "e0{!1}}", "e0{!1234}", "e0{!------1}",
        "e0/a/{u=1;v=2;", "e0{!" + "a+".repeat(22)};

    public static void main(String[] args) {
        noneAtFirst();
        rulesZeroToFive();
        wrongRule();
        emptyThen();
        emptyAlsoIfBad();
        notWhereKIsBad();
        unreadableLeavesTheRule();
        inPlaceOfWhatThatWas();
        offWhenCompiled();
        noFailuresAndNoMeetings();
        nothingOfTheUnreadableStays();
        nothingOfEarlierOnesStays();
        answersActions();
        turnWrongRule();
        turnNone();
        onOrOff();
        answersHowManyAreOn();
        Check.finish("RuleBoundsTest");
    }

    private static void noneAtFirst() {
        Check.sentence("RULES 0 .. 5 are none at first");
        RuleTracer x = new RuleTracer();
        Check.same("RULES", x.count(2), 0);
        for (int k = 0; k < 6; k++) {
            int none = k;
            Check.same("FAILURES of " + k, x.count(20 + k), -1);
            Check.same("MEETINGS of " + k, x.count(30 + k), -1);
            Check.missing("turn on " + k, () -> x.turn(none, true));
        }
    }

    private static void rulesZeroToFive() {
        Check.sentence("becomes RULE k (0 .. 5)");
        RuleTracer x = new RuleTracer();
        for (int k = 5; k >= 0; k--) {
            Check.same("compile(" + k + ")", Check.compile(x, k, "e0{!" + k + "}"), 1);
            Check.same("RULES", x.count(2), 6 - k);
            for (int other = 0; other < 6; other++) {
                Check.same("RULE " + other, x.count(20 + other), other >= k ? 0 : -1);
            }
        }
        Check.compile(x, 3, "e0{!1}");
        Check.same("still six", x.count(2), 6);
    }

    private static void wrongRule() {
        Check.sentence("becomes RULE k (0 .. 5)");
        for (int k : NO_RULE) {
            RuleTracer x = new RuleTracer();
            Check.type(x, "e0{!1}");
            Check.bad("compile(" + k + ")", () -> x.compile(k));
            Check.same("no RULE", x.count(2), 0);
            Check.bad("with an empty text", () -> new RuleTracer().compile(k));
        }
    }

    private static void emptyThen() {
        Check.sentence("The text, empty then");
        RuleTracer x = new RuleTracer();
        for (int k = 0; k < 6; k++) {
            Check.compile(x, k, "e0{!1;!2}");
            Check.same("its length", x.count(1), 0);
            Check.same("a new one begins", x.type('e'), 1);
            Check.bad("which is just e", () -> x.compile(0));
            Check.same("THE PLACE", x.count(0), 1);
        }
    }

    private static void emptyAlsoIfBad() {
        Check.sentence("empty then also if it's bad");
        for (String text : UNREADABLE) {
            for (int k = 0; k < 6; k++) {
                int rule = k;
                RuleTracer x = new RuleTracer();
                Check.bad(text, () -> Check.compile(x, rule, text));
                Check.same("the length behind " + text, x.count(1), 0);
                Check.same("nothing of it is in the next", Check.compile(x, k, "e0{!1}"), 1);
            }
        }
    }

    private static void notWhereKIsBad() {
        Check.sentence("(but not where k is bad)");
        for (int k : NO_RULE) {
            RuleTracer x = new RuleTracer();
            for (int round = 1; round <= 3; round++) {
                Check.type(x, "e0{u=12");
                Check.bad("compile(" + k + ") of what can't be read", () -> x.compile(k));
                Check.same("the text's length", x.count(1), 7);
                Check.same("no PLACE", x.count(0), -1);
                Check.type(x, "3}");
                Check.bad("compile(" + k + ") of what can be read", () -> x.compile(k));
                Check.same("the text's length", x.count(1), 9);
                Check.same("it's as it was", x.compile(0), 1);
                x.turn(0, true);
                Check.fire(x);
                Check.same("u", x.variable(0, 0), 123.0);
            }
        }
    }

    private static void unreadableLeavesTheRule() {
        Check.sentence("a text that can't be read");
        for (String text : UNREADABLE) {
            RuleTracer x = new RuleTracer();
            Check.put(x, 2, "e0{u=u+1;v=1:a}");
            Check.fire(x, 0.0);
            Check.bad(text, () -> Check.compile(x, 2, text));
            Check.bad(text + " into none", () -> Check.compile(x, 3, text));
            Check.same("RULES", x.count(2), 1);
            Check.same("on", x.count(3), 1);
            Check.same("FAILURES", x.count(22), 1);
            Check.same("MEETINGS", x.count(32), 1);
            Check.same("none stays none", x.count(23), -1);
            Check.same("it's MET as before", Check.fire(x, 1.0), 1);
            Check.same("and done", x.variable(0, 0), 2.0);
            Check.same("to its end", x.variable(1, 0), 1.0);
        }
    }

    private static void inPlaceOfWhatThatWas() {
        Check.sentence("in place of what that was");
        for (int k = 0; k < 6; k++) {
            RuleTracer x = new RuleTracer();
            for (int other = 0; other < 6; other++) {
                Check.put(x, other, "x1/a/{@A[1]=2;u=u+1;v=1:b}");
            }
            Check.compile(x, k, "e0{w=w+1}");
            x.turn(k, true);
            Check.same("the five others", x.fire(1, true, 0, 1.0, 1.0, 0.0), 5);
            Check.same("u", x.variable(0, 0), 5.0);
            Check.same("w", x.variable(2, 0), 0.0);
            Check.same("the new one", Check.fire(x), 1);
            Check.same("w", x.variable(2, 0), 1.0);
            Check.same("u", x.variable(0, 0), 5.0);
            Check.same("its MEETINGS", x.count(30 + k), 1);
        }
    }

    private static void offWhenCompiled() {
        Check.sentence("on or off (off when compiled)");
        for (int k = 0; k < 6; k++) {
            RuleTracer x = new RuleTracer();
            for (int other = 0; other < 6; other++) {
                Check.put(x, other, "e0{u=u+1}");
            }
            Check.compile(x, k, "e0{u=u+1}");
            Check.same("five are on", x.count(3), 5);
            Check.same("five are MET", Check.fire(x), 5);
            Check.compile(x, k, "e0{u=u+1}");
            Check.same("off stays off", x.count(3), 5);
            Check.same("turned on", x.turn(k, true), 6);
        }
    }

    private static void noFailuresAndNoMeetings() {
        Check.sentence("off, with no FAILURES and no MEETINGS");
        for (int k = 0; k < 6; k++) {
            RuleTracer x = new RuleTracer();
            for (int other = 0; other < 6; other++) {
                Check.put(x, other, "e0{u=1:a}");
            }
            Check.fire(x);
            Check.fire(x);
            Check.compile(x, k, "e0{u=1:a}");
            for (int other = 0; other < 6; other++) {
                Check.same("FAILURES of " + other, x.count(20 + other), other == k ? 0 : 2);
                Check.same("MEETINGS of " + other, x.count(30 + other), other == k ? 0 : 2);
            }
            x.turn(k, true);
            Check.fire(x);
            Check.same("counted anew", x.count(20 + k), 1);
            Check.same("MEETINGS too", x.count(30 + k), 1);
        }
    }

    private static void nothingOfTheUnreadableStays() {
        Check.sentence("empty then also if it's bad");
        for (String text : UNREADABLE) {
            RuleTracer x = new RuleTracer();
            for (int n = 1; n <= 3; n++) {
                Check.bad(text, () -> Check.compile(x, 0, text));
                Check.same("a right one", Check.compile(x, 0, "x2{w=w+1}"), 1);
                x.turn(0, true);
                Check.same("not for the entry of 0", Check.fire(x), 0);
                Check.same("MET without a CONDITION", x.fire(2, true, 0, 0.0, 0.0, 0.0), 1);
                Check.same("only its own ACTION", x.variable(2, 0), (double) n);
                Check.same("u", x.variable(0, 0), 0.0);
                Check.same("no RECORDS", x.count(4), 0);
                Check.same("no FAILURES", x.count(20), 0);
            }
        }
    }

    /** Each RULE in turn gets texts of all kinds, more than once, so that whatever is used again shows. */
    private static void nothingOfEarlierOnesStays() {
        Check.sentence("in place of what that was, off, with no FAILURES and no MEETINGS");
        String[] texts = {"e0/a/{u=u+1;v=1:0}", "e0{u=u+1}", "e0/a-1/{u=u+1;u=u+1}", "e0{u=u+1;?a;u=u+1}", "e0{v=1:a}"};
        double[] added = {1.0, 1.0, 0.0, 2.0, 0.0};
        int[] met = {1, 1, 0, 1, 1};
        int[] failed = {1, 0, 0, 0, 0};
        for (int k = 0; k < 6; k++) {
            RuleTracer x = new RuleTracer();
            double due = 0.0;
            for (int n = 0; n < 3 * texts.length; n++) {
                int kind = n * 2 % texts.length;
                Check.compile(x, k, texts[kind]);
                Check.same("no FAILURES", x.count(20 + k), 0);
                Check.same("no MEETINGS", x.count(30 + k), 0);
                Check.same("off", Check.fire(x, 1.0), 0);
                Check.same("then on", x.turn(k, true), 1);
                Check.same("MET: " + texts[kind], Check.fire(x, 1.0), met[kind]);
                due += added[kind];
                Check.same("u behind " + texts[kind], x.variable(0, 0), due);
                Check.same("FAILURES of " + texts[kind], x.count(20 + k), failed[kind]);
                Check.same("MEETINGS of " + texts[kind], x.count(30 + k), met[kind]);
            }
        }
    }

    private static void answersActions() {
        Check.sentence("Answers how many ACTIONS it has");
        RuleTracer x = new RuleTracer();
        for (int many = 15; many >= 1; many--) {
            String text = "e0{u=u" + ";!u".repeat(many - 1) + "}";
            if (text.length() <= 48) {
                Check.same(text, Check.compile(x, 1, text), many);
            }
        }
        Check.same("a CONDITION is none", Check.compile(x, 1, "e0/1/{?0}"), 1);
        Check.same("three", Check.compile(x, 1, "e0/1/{?0;@C[1]=2;z=3}"), 3);
    }

    private static void turnWrongRule() {
        Check.sentence("RULE k is on, or off");
        RuleTracer x = Check.with("e0{!1}");
        Check.put(x, 5, "e0{!1}");
        for (int k : NO_RULE) {
            Check.bad("turn(" + k + ", true)", () -> x.turn(k, true));
            Check.bad("turn(" + k + ", false)", () -> x.turn(k, false));
            Check.same("two are on", x.count(3), 2);
        }
    }

    /** Each RULE but one is there; then that one too. */
    private static void turnNone() {
        Check.sentence("None: missing");
        for (int k = 0; k < 6; k++) {
            int none = k;
            RuleTracer x = new RuleTracer();
            for (int other = 0; other < 6; other++) {
                if (other != k) {
                    Check.put(x, other, "e0{!1}");
                }
            }
            Check.missing("turn on " + k, () -> x.turn(none, true));
            Check.missing("turn off " + k, () -> x.turn(none, false));
            Check.same("five are on", x.count(3), 5);
            Check.bad("a text that can't be read", () -> Check.compile(x, none, "e0{"));
            Check.missing("still none", () -> x.turn(none, true));
            Check.compile(x, k, "e0{!1}");
            Check.same("now it's there", x.turn(k, true), 6);
        }
    }

    private static void onOrOff() {
        Check.sentence("RULE k is on, or off");
        for (int k = 0; k < 6; k++) {
            RuleTracer x = new RuleTracer();
            Check.compile(x, k, "e0{u=u+1}");
            Check.same("off at first", Check.fire(x), 0);
            x.turn(k, true);
            Check.same("on", Check.fire(x), 1);
            x.turn(k, true);
            Check.same("on twice is on", Check.fire(x), 1);
            x.turn(k, false);
            Check.same("off", Check.fire(x), 0);
            x.turn(k, false);
            Check.same("off twice is off", Check.fire(x), 0);
            x.turn(k, true);
            Check.same("on again", Check.fire(x), 1);
            Check.same("MEETINGS through all that", x.count(30 + k), 3);
            Check.same("u", x.variable(0, 0), 3.0);
        }
    }

    private static void answersHowManyAreOn() {
        Check.sentence("Answers how many are on");
        RuleTracer x = new RuleTracer();
        for (int k = 0; k < 6; k++) {
            Check.compile(x, k, "e0{!1}");
        }
        Check.same("all off", x.turn(0, false), 0);
        for (int k = 0; k < 6; k++) {
            Check.same("one more", x.turn(k, true), k + 1);
            Check.same("not twice", x.turn(k, true), k + 1);
            Check.same("the same as counted", x.count(3), k + 1);
        }
        for (int k = 0; k < 6; k++) {
            Check.same("one less", x.turn(k, false), 5 - k);
            Check.same("not twice", x.turn(k, false), 5 - k);
        }
    }
}
