/** Promise 2, sentence by sentence: each byte, each place in the number, each length of the text. */
public final class TypeBoundsTest {
    // Right, and 48 characters long: whatever is left out, added or moved shows when it's compiled.
    private static final String LONGEST = "e3{u=111;v=222;w=333;x=444;y=555;z=666;!777;!88}";

    public static void main(String[] args) {
        highestFirst();
        zerosAreLeftOut();
        onlyZeros();
        notACharacter();
        noneIsAddedIfOneIsBad();
        moreThanFortyEight();
        zerosTakeNoRoom();
        noneIsAddedIfTooMany();
        badComesFirst();
        answersItsLength();
        aFullTextIsRead();
        Check.finish("TypeBoundsTest");
    }

    private static long at(int value, int place) {
        return (long) value << 8 * (7 - place);
    }

    private static void highestFirst() {
        Check.sentence("Adds the eight bytes of the number, highest first");
        RuleTracer x = new RuleTracer();
        Check.same("eight", x.type(0x6535_7B75_3D34_327DL), 8);
        Check.same("it was e5{u=42}", x.compile(0), 1);
        x.turn(0, true);
        Check.same("at SITE 5", x.fire(5, false, 0, 0.0, 0.0, 0.0), 1);
        Check.same("u", x.variable(0, 0), 42.0);
        Check.same("eight the other way round", x.type(0x7D32_343D_757B_3565L), 8);
        Check.bad("it was }24=u{5e", () -> x.compile(0));
        Check.same("THE PLACE", x.count(0), 0);
    }

    /** In all 256 ways in which bytes may be 0, the others stand for the text's first characters. */
    private static void zerosAreLeftOut() {
        Check.sentence("those that are 0 left out");
        String text = "x6{v=57}";
        for (int mask = 0; mask < 256; mask++) {
            RuleTracer x = new RuleTracer();
            long eight = 0;
            int length = 0;
            for (int place = 0; place < 8; place++) {
                if ((mask >> place & 1) != 0) {
                    eight |= at(text.charAt(length), place);
                    length++;
                }
            }
            Check.same("mask " + mask, x.type(eight), length);
            Check.type(x, text.substring(length));
            Check.same("the text of mask " + mask, x.compile(1), 1);
            x.turn(1, true);
            x.fire(6, true, 0, 0.0, 0.0, 0.0);
            Check.same("v of mask " + mask, x.variable(1, 0), 57.0);
        }
    }

    private static void onlyZeros() {
        Check.sentence("those that are 0 left out");
        for (int length = 0; length <= 48; length++) {
            RuleTracer x = new RuleTracer();
            Check.type(x, LONGEST.substring(0, length));
            Check.same("type(0) behind " + length, x.type(0L), length);
            Check.type(x, LONGEST.substring(length));
            Check.same("nothing was added", x.compile(0), 8);
        }
    }

    /** Each byte but 0 in each place, alone and among seven others. */
    private static void notACharacter() {
        Check.sentence("One not 33 .. 126: bad");
        for (int value = 1; value <= 255; value++) {
            for (int place = 0; place < 8; place++) {
                long alone = at(value, place);
                long among = 0x6161_6161_6161_6161L & ~at(255, place) | alone;
                RuleTracer x = new RuleTracer();
                if (value >= 33 && value <= 126) {
                    Check.same(value + " alone", x.type(alone), 1);
                    Check.same(value + " among seven", x.type(among), 9);
                } else {
                    Check.bad(value + " alone at " + place, () -> x.type(alone));
                    Check.bad(value + " among seven at " + place, () -> x.type(among));
                }
            }
        }
    }

    private static void noneIsAddedIfOneIsBad() {
        Check.sentence("then none is added");
        for (int place = 0; place < 8; place++) {
            for (int value : new int[] {1, 32, 127, 128, 255}) {
                RuleTracer x = new RuleTracer();
                Check.type(x, LONGEST.substring(0, 20));
                long eight = 0x6161_6161_6161_6161L & ~at(255, place) | at(value, place);
                Check.bad(value + " at " + place, () -> x.type(eight));
                Check.same("the text's length", x.count(1), 20);
                Check.type(x, LONGEST.substring(20));
                Check.same("the text goes on where it was", x.compile(0), 8);
            }
        }
    }

    private static void moreThanFortyEight() {
        Check.sentence("more than 48 in all: IllegalStateException");
        for (int length = 0; length <= 48; length++) {
            for (int more = 0; more <= 8; more++) {
                RuleTracer x = new RuleTracer();
                Check.type(x, "a".repeat(length));
                long eight = Check.eight("a".repeat(more));
                if (length + more > 48) {
                    Check.tooLong(more + " behind " + length, () -> x.type(eight));
                } else {
                    Check.same(more + " behind " + length, x.type(eight), length + more);
                }
            }
        }
        RuleTracer x = new RuleTracer();
        Check.type(x, "a".repeat(40));
        Check.same("eight in the highest places", x.type(0x6161_6161_6161_6161L), 48);
        Check.tooLong("one in the highest place", () -> x.type(at('a', 0)));
        Check.tooLong("one in the lowest place", () -> x.type(at('a', 7)));
    }

    /** In all 256 ways in which bytes may be 0, where there is just room, and where one place is wanting. */
    private static void zerosTakeNoRoom() {
        Check.sentence("more than 48 in all: IllegalStateException");
        for (char c : new char[] {'!', 'a', '~'}) {
            for (int mask = 1; mask < 256; mask++) {
                long eight = 0;
                for (int place = 0; place < 8; place++) {
                    eight |= at((mask >> place & 1) * c, place);
                }
                long some = eight;
                RuleTracer x = new RuleTracer();
                Check.type(x, "a".repeat(49 - Integer.bitCount(mask)));
                Check.tooLong("49 with mask " + mask, () -> x.type(some));
                RuleTracer y = new RuleTracer();
                Check.type(y, "a".repeat(48 - Integer.bitCount(mask)));
                Check.same("48 with mask " + mask, y.type(eight), 48);
            }
        }
    }

    /** Not even those that there is room for. */
    private static void noneIsAddedIfTooMany() {
        Check.sentence("then none is added");
        for (int length = 41; length <= 48; length++) {
            RuleTracer x = new RuleTracer();
            Check.type(x, LONGEST.substring(0, length));
            Check.tooLong("eight behind " + length, () -> x.type(0x6161_6161_6161_6161L));
            Check.same("the text's length", x.count(1), length);
            Check.type(x, LONGEST.substring(length));
            Check.same("the text goes on where it was", x.compile(0), 8);
        }
    }

    /** Where both hold, the sentence's order decides: on whichever side of the 48th character the bad one stands. */
    private static void badComesFirst() {
        Check.sentence("One not 33 .. 126: bad; more than 48 in all: IllegalStateException; then none is added");
        for (int length = 40; length <= 48; length++) {
            RuleTracer x = new RuleTracer();
            Check.type(x, LONGEST.substring(0, length));
            for (int place = 0; place < 8; place++) {
                for (int value : new int[] {1, 32, 127, 128, 255}) {
                    long eight = 0x6161_6161_6161_6161L & ~at(255, place) | at(value, place);
                    Check.bad(value + " at " + place + " behind " + length, () -> x.type(eight));
                }
            }
            Check.same("the text's length", x.count(1), length);
            Check.type(x, LONGEST.substring(length));
            Check.same("the text goes on where it was", x.compile(0), 8);
        }
    }

    private static void answersItsLength() {
        Check.sentence("Answers its length");
        RuleTracer x = new RuleTracer();
        for (int length = 1; length <= 48; length++) {
            Check.same("one more", x.type(LONGEST.charAt(length - 1)), length);
            Check.same("the same as counted", x.count(1), length);
        }
        x.compile(0);
        Check.same("from the beginning again", x.type('e'), 1);
    }

    private static void aFullTextIsRead() {
        Check.sentence("compiled from a text (at most 48 characters)");
        RuleTracer x = Check.with(LONGEST);
        x.fire(3, false, 2, 0.0, 0.0, 0.0);
        for (int number = 0; number < 6; number++) {
            Check.same("variable " + number, x.variable(number, 2), 111.0 * (number + 1));
        }
        Check.same("a RECORD", x.record(), 777.0);
        Check.same("the last one", x.record(), 88.0);
        String shorter = LONGEST.substring(0, 46) + "}";
        Check.same("47 characters", shorter.length(), 47);
        Check.same("are right too", Check.compile(x, 1, shorter), 8);
    }
}
