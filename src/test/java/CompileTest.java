/** Promise 3: compile, and THE PLACE of texts that can't be read. */
public final class CompileTest {
    public static void main(String[] args) {
        answersActions();
        replaces();
        wrongRuleNumber();
        wrongTextLeavesRuleAlone();
        rightTexts();
        nothingIsLeftOfEarlierTexts();
        places();
        depths();
        everyCutIsWrongAtItsEnd();
        Check.finish("CompileTest");
    }

    private static void answersActions() {
        RuleTracer x = new RuleTracer();
        Check.same("one ACTION", Check.compile(x, 0, "e0{!1}"), 1);
        Check.same("two", Check.compile(x, 5, "x7{!1;?0}"), 2);
        Check.same("fifteen, in 48 characters", Check.compile(x, 3, "e0{!1;!2;!3;!4;!5;!6;!7;!8;!9;!1;!2;!3;!4;!5;!6}"), 15);
        Check.same("RULES", x.count(2), 3);
        Check.same("off when compiled", x.count(3), 0);
        Check.same("the text is empty", x.count(1), 0);
    }

    private static void replaces() {
        RuleTracer x = Check.with("e0{u=u+1;!1:a}");
        Check.put(x, 1, "e0{v=v+1}");
        x.fire(0, false, 0, 0.0, 0.0, 0.0);
        Check.same("FAILURES before", x.count(20), 1);
        Check.same("MEETINGS before", x.count(30), 1);
        Check.same("compile", Check.compile(x, 0, "x0{w=w+1}"), 1);
        Check.same("no FAILURES", x.count(20), 0);
        Check.same("no MEETINGS", x.count(30), 0);
        Check.same("off", x.count(3), 1);
        Check.same("still two RULES", x.count(2), 2);
        Check.same("the other's MEETINGS stay", x.count(31), 1);
        x.turn(0, true);
        x.fire(0, false, 0, 0.0, 0.0, 0.0);
        Check.same("the old one is gone", x.variable(0, 0), 1.0);
        x.fire(0, true, 0, 0.0, 0.0, 0.0);
        Check.same("the new one is there", x.variable(2, 0), 1.0);
    }

    private static void wrongRuleNumber() {
        RuleTracer x = new RuleTracer();
        Check.type(x, "e0{u=1}");
        for (int k : new int[] {-1, 6, Integer.MIN_VALUE, Integer.MAX_VALUE}) {
            Check.bad("compile(" + k + ")", () -> x.compile(k));
            Check.same("the text stays", x.count(1), 7);
        }
        Check.same("no text was read", x.count(0), -1);
        Check.same("the text is still right", x.compile(0), 1);
        Check.type(x, "!!");
        Check.bad("a bad text, a bad k", () -> x.compile(6));
        Check.same("no PLACE of it", x.count(0), -1);
        Check.same("the bad text stays", x.count(1), 2);
    }

    private static void wrongTextLeavesRuleAlone() {
        RuleTracer x = Check.with("e0{u=u+1;!1:a}");
        x.fire(0, false, 0, 0.0, 0.0, 0.0);
        Check.bad("a text wrong at its end", () -> Check.compile(x, 0, "x0{w=w+1;?3"));
        Check.same("the text is empty", x.count(1), 0);
        Check.same("its PLACE", x.count(0), 11);
        Check.same("FAILURES stay", x.count(20), 1);
        Check.same("MEETINGS stay", x.count(30), 1);
        Check.same("still on", x.count(3), 1);
        Check.same("still the old one", x.fire(0, false, 0, 0.0, 0.0, 0.0), 1);
        Check.same("and it's done", x.variable(0, 0), 2.0);
        Check.bad("into none", () -> Check.compile(x, 4, "x"));
        Check.same("still none", x.count(24), -1);
        Check.same("a right text leaves THE PLACE", Check.compile(x, 4, "x0{!1}"), 1);
        Check.same("of the latest that couldn't be read", x.count(0), 1);
        Check.bad("an empty text", () -> x.compile(0));
        Check.same("its PLACE is its length", x.count(0), 0);
    }

    private static void nothingIsLeftOfEarlierTexts() {
        RuleTracer x = Check.with("x7/a/{u=1;v=1:a}");
        x.fire(7, true, 0, 1.0, 0.0, 0.0);
        Check.bad("a text with a CONDITION, wrong behind it", () -> Check.compile(x, 1, "x7/1:a/{u=2;v=3;"));
        for (int n = 0; n < 3; n++) {
            Check.same("without a CONDITION", Check.compile(x, 0, "e0{w=w+1}"), 1);
            Check.same("off", x.count(3), 0);
            Check.same("no MEETINGS", x.count(30), 0);
            x.turn(0, true);
            Check.same("it's MET", x.fire(0, false, 0, 0.0, 0.0, 0.0), 1);
            Check.same("no FAILURES", x.count(20), 0);
            Check.same("w", x.variable(2, 0), n + 1.0);
        }
        Check.same("u", x.variable(0, 0), 1.0);
    }

    private static void rightTexts() {
        String[] texts = {
            "e0{u=0}", "x7{z=999}", "e3/1/{!a}", "e0/a<b/{v=c;w=t;x=k;y=u;z=v}", "x0{@A[a]=b;@B[k]=c;@C[t]=w}",
            "e0{!a=b}", "e0{!(a=b)=(c<t)}", "e0{u=a=b}", "e0{!1+2-3*4:5}", "e0{!1--2}", "e0{!1*-2:-3}",
            "e0{!000}", "e0{@A[a<b]=b>c}", "e0/-a/{?(a)}", "e0{!-a-b-c-1-2-3-4}", "e0{!x+y*z}",
        };
        for (String text : texts) {
            RuleTracer x = new RuleTracer();
            int due = 1;
            for (char c : text.toCharArray()) {
                due += c == ';' ? 1 : 0;
            }
            Check.same(text, Check.compile(x, 2, text), due);
            Check.same(text + ": no PLACE", x.count(0), -1);
        }
    }

    private static void place(String text, int due) {
        RuleTracer x = new RuleTracer();
        Check.bad(text, () -> Check.compile(x, 0, text));
        Check.same("THE PLACE of " + text, x.count(0), due);
        Check.same(text + " makes no RULE", x.count(2), 0);
    }

    private static void places() {
        place("E0{u=1}", 0);
        place("0e{u=1}", 0);
        place("e8{u=1}", 1);
        place("e/{u=1}", 1);
        place("ex{u=1}", 1);
        place("e00{u=1}", 2);
        place("e0u=1}", 2);
        place("e0//{u=1}", 3);
        place("e0/a{u=1}", 4);
        place("e0/a/u=1}", 5);
        place("e0/a//{u=1}", 5);
        place("e0/a<b<c/{u=1}", 6);
        place("e0{t=1}", 3);
        place("e0{k=1}", 3);
        place("e0{;u=1}", 3);
        place("e0{u==1}", 5);
        place("e0{u:1}", 4);
        place("e0{1}", 3);
        place("e0{u=1,v=2}", 6);
        place("e0{u=1;;v=2}", 7);
        place("e0{u=1}}", 7);
        place("e0{u=1};", 7);
        place("e0{u=1)}", 6);
        place("e0{u=(1}", 7);
        place("e0{u=()}", 6);
        place("e0{u=1a}", 6);
        place("e0{u=a1}", 6);
        place("e0{u=ab}", 6);
        place("e0{u=1(2)}", 6);
        place("e0{u=+1}", 5);
        place("e0{u=1++2}", 7);
        place("e0{u=1*+2}", 7);
        place("e0{u=1*:2}", 7);
        place("e0{u=1/2}", 6);
        place("e0{u=a>b=c}", 8);
        place("e0{u=(a>b)>c>d}", 12);
        place("e0{u=1234}", 8);
        place("e0{u=0000}", 8);
        place("e0{u=a+9999}", 10);
        place("e0{@[1]=1}", 4);
        place("e0{@a[1]=1}", 4);
        place("e0{@A1]=1}", 5);
        place("e0{@A[]=1}", 6);
        place("e0{@A[1=1}", 9);
        place("e0{@A[1<2=3]=1}", 9);
        place("e0{@A[1]1}", 8);
        place("e0{@A[1]<1}", 8);
        place("e0{@A[1]=}", 9);
        place("e0{@A[1]=1]}", 10);
        place("e0{!}", 4);
        place("e0{?}", 4);
        place("e0{!u=1=2}", 7);
        place("e0{!!1}", 4);
        place("e0{u=A}", 5);
        place("e0{u=s}", 5);
        place("e0{u=d}", 5);
        place("e0{u=j}", 5);
        place("e0{u=l}", 5);
        place("e0{u={}", 5);
        place("e0{u=~1}", 5);
        place("e0{!" + "1+".repeat(22), 48);
        right("e0{!" + "1+".repeat(21) + "1}");
        place("e0{!" + "1+".repeat(21) + "}", 46);
    }

    private static void depths() {
        right("e0{!(((((1)))))}");
        place("e0{!((((((1))))))}", 9);
        right("e0{!-----1}");
        place("e0{!------1}", 9);
        right("e0{!-(-(-1))}");
        place("e0{!-(-(-(1)))}", 9);
        place("e0{!(-(-(-1)))}", 9);
        place("e0{!(((((-1)))))}", 9);
        right("e0{!-----1------2}");
        place("e0{!-----1-------2}", 16);
        right("e0{!(((((1)))))+(((((2)))))}");
        right("e0{!(((((1+2-3-4-5-6-7)))))}");
        right("e0{!((((-1)*-2)-3)-4)-(((((5)))))}");
        right("e0{@A[(((((1)))))]=-----1;!-----1}");
        right("e0/-----1/{!(((((1)))))}");
        place("e0/------1/{!1}", 8);
        place("e0{@A[------1]=1}", 11);
        place("e0{!((((((", 9);
        place("e0{!(((((", 9);
        place("e0{!((((()", 9);
    }

    private static void right(String text) {
        Check.same(text, Check.compile(new RuleTracer(), 0, text) > 0 ? 1 : 0, 1);
    }

    private static void everyCutIsWrongAtItsEnd() {
        String text = "x3/a<(b-123)/{u=-1;@B[t]=k*2>c:7;?v;!(w+x)=y-z}";
        right(text);
        for (int end = 0; end < text.length(); end++) {
            place(text.substring(0, end), end);
        }
    }
}
