import java.util.Random;

/** Texts for the class to read: right ones, and such that go wrong somewhere. */
final class Texts {
    private final Random random;

    Texts(long seed) {
        random = new Random(seed);
    }

    /** A right text of at most 48 characters. */
    String right() {
        for (int tries = 0; tries < 100; tries++) {
            String text = walk();
            if (text.length() <= 48) {
                return text;
            }
        }
        return "e0{!1}";
    }

    /** A text with something put in, left out, changed or cut off. */
    String spoiled() {
        String text = right();
        int i = random.nextInt(text.length());
        if (random.nextInt(4) == 0) {
            return deeper(text, i);
        }
        switch (random.nextInt(5)) {
            case 0: return text.substring(0, i);
            case 1: return text.substring(0, i) + text.substring(i + 1);
            case 2: return text.substring(0, i) + anything() + text.substring(i + 1);
            case 3: return cut(text.substring(0, i) + anything() + text.substring(i));
            default: return cut(text + anything());
        }
    }

    /** One DEPTH more from the first ( or - behind i on, so that a sixth comes up often. */
    private String deeper(String text, int i) {
        int from = i;
        while (from < text.length() && text.charAt(from) != '(' && text.charAt(from) != '-') {
            from++;
        }
        return cut(text.substring(0, from) + (random.nextBoolean() ? '(' : '-') + text.substring(from));
    }

    private static String cut(String text) {
        return text.substring(0, Math.min(48, text.length()));
    }

    private char anything() {
        String likely = "(-(-0123456789abctkuvwxyz<>=+*:;/{}[]()@!?ABCex";
        return random.nextInt(8) == 0 ? (char) (33 + random.nextInt(94)) : likely.charAt(random.nextInt(likely.length()));
    }

    private String walk() {
        Grammar grammar = new Grammar();
        StringBuilder text = new StringBuilder();
        int closeFrom = random.nextInt(44);
        boolean deep = random.nextInt(3) == 0;
        while (!grammar.isDone() && text.length() <= 48) {
            String may = grammar.following();
            char c = may.charAt(random.nextInt(may.length()));
            if (may.indexOf('e') == 0) {
                c = random.nextInt(3) == 0 ? 'x' : 'e';
            } else if (may.startsWith("01234567") && may.length() == 8) {
                c = random.nextInt(4) == 0 ? c : '0';
            } else if (text.length() >= closeFrom) {
                c = closer(may, c);
            } else if (deep && may.endsWith("(-") && random.nextInt(3) != 0) {
                c = random.nextBoolean() ? '(' : '-';
            }
            text.append(c);
            grammar.go(c);
        }
        return text.toString();
    }

    /** What brings the text to its end soonest. */
    private char closer(String may, char c) {
        for (char end : ")]}".toCharArray()) {
            if (may.indexOf(end) >= 0) {
                return end;
            }
        }
        if (may.startsWith("+-*:/")) {
            return '/';
        }
        return c == '(' || c == '-' ? 'a' : c;
    }
}
