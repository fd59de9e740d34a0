/** Promise 2: type. */
public final class TypeTest {
    public static void main(String[] args) {
        ordinary();
        wrongBytes();
        tooMany();
        Check.finish("TypeTest");
    }

    private static void ordinary() {
        RuleTracer x = new RuleTracer();
        Check.same("type(0) adds nothing", x.type(0L), 0);
        Check.same("one", x.type('e'), 1);
        Check.same("bytes that are 0 are left out between others", x.type(0x0030_0000_7B00_0075L), 4);
        Check.same("the last two, with 0 behind", x.type(0x3D37_7D00_0000_0000L), 7);
        Check.same("its length", x.count(1), 7);
        Check.same("it was e0{u=7}", x.compile(0), 1);
        Check.same("it's empty", x.count(1), 0);
        x.turn(0, true);
        x.fire(0, false, 0, 0.0, 0.0, 0.0);
        Check.same("highest first", x.variable(0, 0), 7.0);
    }

    private static void wrongBytes() {
        RuleTracer x = new RuleTracer();
        Check.same("the least and the greatest", x.type(33L << 8 | 126L), 2);
        Check.bad("32", () -> x.type(32L));
        Check.bad("127", () -> x.type(127L));
        Check.bad("128", () -> x.type(128L));
        Check.bad("255", () -> x.type(255L));
        Check.bad("1", () -> x.type(1L));
        Check.bad("-1", () -> x.type(-1L));
        Check.bad("the first of eight", () -> x.type(0x2061_6161_6161_6161L));
        Check.bad("a first one above 127", () -> x.type(0x8061_6161_6161_6161L));
        Check.bad("one in the midst", () -> x.type(0x6161_6109_6161_6161L));
        Check.bad("the last of eight", () -> x.type(0x6161_6161_6161_617FL));
        Check.same("none was added", x.count(1), 2);
    }

    private static void tooMany() {
        RuleTracer x = new RuleTracer();
        Check.type(x, "a".repeat(45));
        Check.tooLong("49", () -> x.type(0x6161_6161L));
        Check.same("none was added", x.count(1), 45);
        Check.bad("bad comes first", () -> x.type(0x6161_6161_6161_6120L));
        Check.same("47", x.type(0x6161L), 47);
        Check.tooLong("two more than 47", () -> x.type(0x6161L));
        Check.same("48", x.type(0x6100L), 48);
        Check.same("none more", x.type(0L), 48);
        Check.tooLong("one more than 48", () -> x.type(0x61L));
        Check.bad("bad comes first when it's full", () -> x.type(0x20L));
        Check.same("still 48", x.count(1), 48);
    }
}
