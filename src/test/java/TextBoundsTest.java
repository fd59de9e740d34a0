/** The texts of RULES and THE PLACE: behind each beginning, each of the 94 characters. */
public final class TextBoundsTest {
    private static final String DIGITS = "0123456789";
    private static final String NAMES = "abctkuvwxyz";
    private static final String DEEPEST_UNIT = DIGITS + NAMES;
    private static final String UNIT = DEEPEST_UNIT + "(-";
    private static final String OPERATORS = "+-*:";
    private static final String COMPARED = OPERATORS + "<>=";

    public static void main(String[] args) {
        heads();
        conditions();
        actions();
        settings();
        gatherings();
        recordingsAndGoingOn();
        onlyOneComparison();
        sumsAndTerms();
        units();
        digits();
        depths();
        depthsThatAreOver();
        fourthDigits();
        sixthDepths();
        justTheEnd();
        justTheEndOfAFullText();
        behindTheEnd();
        latestPlace();
        mostActions();
        Check.finish("TextBoundsTest");
    }

    /** THE PLACE of the text, or -1 if it was right. */
    private static int placeOf(String text) {
        RuleTracer x = new RuleTracer();
        Check.type(x, text);
        try {
            x.compile(0);
        } catch (IllegalArgumentException e) {
            Check.same(text + " makes no RULE", x.count(2), 0);
            return x.count(0);
        }
        Check.same(text + " has no PLACE", x.count(0), -1);
        return -1;
    }

    /** Behind the beginning just these characters may stand; the text may not end there, but with }. */
    private static void follow(String beginning, String these) {
        Check.same("the end behind " + beginning, placeOf(beginning), beginning.length());
        for (char c = 33; c <= 126; c++) {
            String text = beginning + c;
            int place = placeOf(text);
            if (these.indexOf(c) < 0) {
                Check.same("THE PLACE of " + text, place, beginning.length());
            } else {
                Check.same("THE PLACE of " + text, place, c == '}' ? -1 : text.length());
            }
        }
    }

    private static void right(String text) {
        Check.same("THE PLACE of " + text, placeOf(text), -1);
    }

    private static void wrong(String text, int place) {
        Check.same("THE PLACE of " + text, placeOf(text), place);
    }

    private static void heads() {
        Check.sentence("RULE: e or x, for entry or exit, and a digit 0 .. 7, a SITE");
        follow("", "ex");
        follow("e", "01234567");
        follow("x", "01234567");
        for (char site = '0'; site <= '7'; site++) {
            follow("e" + site, "/{");
            follow("x" + site, "/{");
            right("e" + site + "{!1}");
            right("x" + site + "/1/{!1}");
        }
    }

    private static void conditions() {
        Check.sentence("then perhaps / E /, a CONDITION");
        follow("e0/", UNIT);
        follow("e0/a", COMPARED + "/");
        follow("e0/a<b", OPERATORS + "/");
        follow("e0/(a)", COMPARED + "/");
        follow("e0/(a", COMPARED + ")");
        follow("e0/a/", "{");
        follow("e0/a<b/", "{");
        right("e0/a/{!1}");
        right("e0/a<b/{!1}");
    }

    private static void actions() {
        Check.sentence("then { ACTION (; ACTION)* }");
        follow("e0{", "uvwxyz@!?");
        follow("e0/a/{", "uvwxyz@!?");
        follow("e0{!1;", "uvwxyz@!?");
        follow("e0{u=1;", "uvwxyz@!?");
        follow("e0{@A[1]=1;", "uvwxyz@!?");
        follow("e0{!1;?1;", "uvwxyz@!?");
        wrong("e0{}", 3);
        wrong("e0/a/{}", 6);
        wrong("e0{!1;}", 6);
    }

    private static void settings() {
        Check.sentence("ACTION: one of u .. z, = and E: SETTING");
        for (char name = 'u'; name <= 'z'; name++) {
            follow("e0{" + name, "=");
            follow("e0{" + name + "=", UNIT);
            follow("e0{" + name + "=a", COMPARED + ";}");
            follow("e0{" + name + "=a=b", OPERATORS + ";}");
        }
    }

    private static void gatherings() {
        Check.sentence("@ and A, B or C, [ E ] = E: GATHERING");
        follow("e0{@", "ABC");
        for (char name = 'A'; name <= 'C'; name++) {
            follow("e0{@" + name, "[");
        }
        follow("e0{@A[", UNIT);
        follow("e0{@A[a", COMPARED + "]");
        follow("e0{@A[a<b", OPERATORS + "]");
        follow("e0{@A[a]", "=");
        follow("e0{@A[a]=", UNIT);
        follow("e0{@A[a]=b", COMPARED + ";}");
        follow("e0{@A[a<b]=a>b", OPERATORS + ";}");
    }

    private static void recordingsAndGoingOn() {
        Check.sentence("! E: RECORDING; ? E: GOING ON");
        for (char kind : new char[] {'!', '?'}) {
            follow("e0{" + kind, UNIT);
            follow("e0{" + kind + "a", COMPARED + ";}");
            follow("e0{" + kind + "a>b", OPERATORS + ";}");
        }
    }

    private static void onlyOneComparison() {
        Check.sentence("E: SUM, or SUM (< or > or =) SUM");
        for (char one : new char[] {'<', '>', '='}) {
            follow("e0{!a" + one, UNIT);
            follow("e0{!a" + one + "b", OPERATORS + ";}");
            follow("e0{!(a" + one + "b", OPERATORS + ")");
            follow("e0{!(a" + one + "b)", COMPARED + ";}");
            follow("e0{!(a" + one + "b)" + one + "c", OPERATORS + ";}");
        }
    }

    private static void sumsAndTerms() {
        Check.sentence("SUM: TERM ((+ or -) TERM)*. TERM: UNIT ((* or :) UNIT)*");
        for (char one : OPERATORS.toCharArray()) {
            follow("e0{!a" + one, UNIT);
            follow("e0{!a" + one + "b", COMPARED + ";}");
            follow("e0{!a<b" + one, UNIT);
            follow("e0{!a<b" + one + "c", OPERATORS + ";}");
            right("e0{!a" + (one + "a").repeat(21) + "}");
            wrong("e0{!a" + (one + "a").repeat(21) + ",", 47);
        }
    }

    private static void units() {
        Check.sentence("a, b or c, what is handed over; t, THE TIME; k, the THREAD; u .. z; ( E ); - UNIT");
        for (char name : NAMES.toCharArray()) {
            follow("e0{!" + name, COMPARED + ";}");
        }
        follow("e0{!(", UNIT);
        follow("e0{!(a", COMPARED + ")");
        follow("e0{!(a)", COMPARED + ";}");
        follow("e0{!-", UNIT);
        follow("e0{!-a", COMPARED + ";}");
        follow("e0{!-(a", COMPARED + ")");
        follow("e0{!(-a", COMPARED + ")");
        follow("e0{!-(a)", COMPARED + ";}");
    }

    private static void digits() {
        Check.sentence("UNIT: one to three digits");
        for (char digit : DIGITS.toCharArray()) {
            follow("e0{!" + digit, DIGITS + COMPARED + ";}");
            follow("e0{!1" + digit, DIGITS + COMPARED + ";}");
            follow("e0{!11" + digit, COMPARED + ";}");
        }
        follow("e0/123", COMPARED + "/");
        follow("e0{@A[123", COMPARED + "]");
        follow("e0{!-123", COMPARED + ";}");
        follow("e0{!(123", COMPARED + ")");
        follow("e0{!123+123", COMPARED + ";}");
        String[] numbers = {"0", "9", "10", "99", "100", "999", "00", "000", "001", "099"};
        int[] due = {0, 9, 10, 99, 100, 999, 0, 0, 1, 99};
        for (int n = 0; n < numbers.length; n++) {
            RuleTracer x = Check.with("e0{!" + numbers[n] + "}");
            Check.fire(x);
            Check.same(numbers[n], x.record(), (double) due[n]);
        }
    }

    /** All ways to open so many, by ( and by -. */
    private static String opening(int ways, int many) {
        StringBuilder opening = new StringBuilder();
        for (int i = 0; i < many; i++) {
            opening.append((ways >> i & 1) == 0 ? '(' : '-');
        }
        return opening.toString();
    }

    private static String closing(String opening) {
        return ")".repeat((int) opening.chars().filter(c -> c == '(').count());
    }

    private static void depths() {
        Check.sentence("( and - open a DEPTH, till what they opened is over; at most 5 at a time");
        for (int many = 0; many <= 5; many++) {
            for (int ways = 0; ways < 1 << many; ways++) {
                String opening = opening(ways, many);
                follow("e0{!" + opening, many < 5 ? UNIT : DEEPEST_UNIT);
                right("e0{!" + opening + "a" + closing(opening) + "}");
                wrong("e0{!" + opening + "a" + closing(opening) + ")}", 5 + many + closing(opening).length());
            }
        }
        follow("e0/(((((", DEEPEST_UNIT);
        follow("e0/((((", UNIT);
        follow("e0{@A[-----", DEEPEST_UNIT);
        follow("e0{@A[----", UNIT);
        follow("e0{@A[1]=-(-(-", DEEPEST_UNIT);
        follow("e0{@A[1]=-(-(", UNIT);
        follow("e0{?(-(-(", DEEPEST_UNIT);
        follow("e0{u=((((-", DEEPEST_UNIT);
    }

    private static void depthsThatAreOver() {
        Check.sentence("till what they opened is over");
        follow("e0{!(((((a", COMPARED + ")");
        follow("e0{!(((((a+", DEEPEST_UNIT);
        follow("e0{!(((((a)+", UNIT);
        follow("e0{!(((((a)+(", DEEPEST_UNIT);
        follow("e0{!-----a*", UNIT);
        follow("e0{!-----a*----", UNIT);
        follow("e0{!-----a*-----", DEEPEST_UNIT);
        follow("e0{!((((-a*", UNIT);
        follow("e0{!((((-a*-", DEEPEST_UNIT);
        follow("e0{!----(a*", DEEPEST_UNIT);
        follow("e0{!----(a)*", UNIT);
        follow("e0{!----(a)*----", UNIT);
        follow("e0{!(((((a-a-a-a-a-a-a-a-", DEEPEST_UNIT);
        follow("e0{!a-a-a-a-a-a-a-a-----", UNIT);
        follow("e0{!a-a-a-a-a-a-a-a------", DEEPEST_UNIT);
        follow("e0/(((((a)))))/{!(((((a)))));?----", UNIT);
        follow("e0{@A[-----a]=-----a;@A[-----a]=----", UNIT);
    }

    private static void fourthDigits() {
        Check.sentence("the digits' fourth");
        wrong("e0{!0000}", 7);
        wrong("e0{!1234}", 7);
        wrong("e0{!123456}", 7);
        wrong("e0/1000/{!1}", 6);
        wrong("e0{@B[1000]=1}", 9);
        wrong("e0{@B[1]=9999}", 12);
        wrong("e0{u=1+2*9990}", 12);
        right("e0{!123+456-789*0:999}");
    }

    private static void sixthDepths() {
        Check.sentence("the ( or - that opens a sixth DEPTH");
        for (int ways = 0; ways < 64; ways++) {
            String opening = opening(ways, 6);
            wrong("e0{!" + opening + "a" + closing(opening) + "}", 9);
            wrong("e0/" + opening, 8);
            wrong("e0{@C[" + opening, 11);
        }
        wrong("e0{!a-------a}", 11);
        right("e0{!a------a}");
    }

    private static void justTheEnd() {
        Check.sentence("or its length, if just the end is wrong");
        Check.same("of an empty text", placeOf(""), 0);
        String[] texts = {"e7/a<b/{u=123;@C[(-1)]=v:2;!w*(x+y);?z=k-t}", "x0{@A[1>2]=3;@B[-(-(-4))]=5}", "x3{?1}"};
        for (String text : texts) {
            right(text);
            for (int end = 0; end < text.length(); end++) {
                wrong(text.substring(0, end), end);
            }
        }
        wrong("e0{!" + "1+".repeat(22), 48);
        wrong("e0{!" + "1+".repeat(21) + "1", 47);
        right("e0{!" + "1+".repeat(21) + "1}");
    }

    /** A full text has no room for the end that it lacks; that is no fault of a character in it. */
    private static void justTheEndOfAFullText() {
        Check.sentence("or its length, if just the end is wrong");
        String sum = "e0{!" + "1+".repeat(19);
        String[] ends = {"123+45", "(((((a", "-----a", "1-(-(-", "1<2+3-", "1;@A[1", "1;@B[2", "1;u=1=", "1;?a*b", "1;!(b)"};
        for (String end : ends) {
            String text = sum + end;
            wrong(text, 48);
            wrong(text.substring(0, 47), 47);
            wrong(text.substring(0, 47) + "#", 47);
        }
        wrong(sum + "(-(-(-", 47);
        String actions = "x7/a/{" + "!1;".repeat(14);
        wrong(actions, 48);
        wrong(actions.substring(0, 47), 47);
        right(actions.substring(0, 47) + "}");
        wrong(actions.substring(0, 47) + "/", 47);
        wrong("e3/" + "a*".repeat(22) + "a", 48);
        wrong("e3/" + "a*".repeat(22) + "/", 47);
    }

    private static void behindTheEnd() {
        Check.sentence("its first character with which, after those before, nothing right could begin");
        for (char c = 33; c <= 126; c++) {
            wrong("e0{!1}" + c, 6);
            wrong("x7/a/{u=1;@A[1]=1}" + c, 18);
        }
        wrong("e0{!1}e0{!1}", 6);
        wrong("e0{!+)!!", 4);
        wrong("88888888", 0);
    }

    private static void latestPlace() {
        Check.sentence("THE PLACE of the latest text that couldn't be read, -1 if there was none (0)");
        RuleTracer x = new RuleTracer();
        Check.same("none", x.count(0), -1);
        Check.compile(x, 0, "e0{!1}");
        Check.same("only a right one", x.count(0), -1);
        Check.bad("wrong at its end", () -> Check.compile(x, 0, "e0{!1"));
        Check.same("its PLACE", x.count(0), 5);
        Check.compile(x, 1, "e0{!1}");
        Check.same("a right one later", x.count(0), 5);
        Check.bad("wrong at 1", () -> Check.compile(x, 2, "e9{!1}"));
        Check.same("the latest", x.count(0), 1);
        Check.type(x, "e0/");
        Check.bad("a bad k", () -> x.compile(6));
        Check.same("no text was read", x.count(0), 1);
        Check.bad("wrong behind it", () -> x.compile(5));
        Check.same("now it was", x.count(0), 3);
        Check.bad("an empty one", () -> x.compile(5));
        Check.same("0 is a PLACE", x.count(0), 0);
        Check.bad("a full one", () -> Check.compile(x, 5, "e0{!" + "a-".repeat(22)));
        Check.same("48 is a PLACE", x.count(0), 48);
        x.type('e');
        Check.same("typing alone reads nothing", x.count(0), 48);
    }

    private static void mostActions() {
        Check.sentence("Answers how many ACTIONS it has");
        for (int many = 1; many <= 15; many++) {
            String text = "e0{!1" + ";?1".repeat(many - 1) + "}";
            Check.same(text, Check.compile(new RuleTracer(), 0, text), many);
        }
        Check.same("without the ; of its places", Check.compile(new RuleTracer(), 5, "x0/a/{@A[1]=1;@B[2]=2}"), 2);
    }
}
