import java.util.ArrayDeque;
import java.util.Deque;

/** The language of RULES told another way than the class tells it: which characters may stand behind a beginning. */
final class Grammar {
    private enum At { START, SITE, HEAD, BRACE, ACTION, EQUALS, GATHERER, OPEN, UNIT, AFTER, DONE, LOST }

    private static final String DIGITS = "0123456789";
    private static final String NAMES = "abctkuvwxyz";

    private At at = At.START;
    // What is open, the innermost first: / { [ ( and, once compared, the same as C D K P; - for a sign.
    private final Deque<Character> open = new ArrayDeque<>();
    private int digits = 0;

    /** THE PLACE of a text, or -1 if it's right. */
    static int place(String text) {
        Grammar grammar = new Grammar();
        for (int i = 0; i < text.length(); i++) {
            if (grammar.following().indexOf(text.charAt(i)) < 0) {
                return i;
            }
            grammar.go(text.charAt(i));
        }
        return grammar.isDone() ? -1 : text.length();
    }

    boolean isDone() {
        return at == At.DONE;
    }

    String following() {
        switch (at) {
            case START: return "ex";
            case SITE: return "01234567";
            case HEAD: return "/{";
            case BRACE: return "{";
            case ACTION: return "uvwxyz@!?";
            case EQUALS: return "=";
            case GATHERER: return "ABC";
            case OPEN: return "[";
            case UNIT: return DIGITS + NAMES + (depth() < 5 ? "(-" : "");
            case AFTER: return (digits > 0 && digits < 3 ? DIGITS : "") + "+-*:" + closing();
            default: return "";
        }
    }

    void go(char c) {
        boolean digit = DIGITS.indexOf(c) >= 0;
        switch (at) {
            case START: at = At.SITE; break;
            case SITE: at = At.HEAD; break;
            case HEAD: beginHead(c); break;
            case BRACE: at = At.ACTION; break;
            case ACTION: beginAction(c); break;
            case EQUALS: begin('{'); break;
            case GATHERER: at = At.OPEN; break;
            case OPEN: begin('['); break;
            case UNIT: goUnit(c, digit); break;
            case AFTER: goAfter(c, digit); break;
            default: at = At.LOST; break;
        }
    }

    private void beginHead(char c) {
        if (c == '/') {
            begin('/');
        } else {
            at = At.ACTION;
        }
    }

    private void beginAction(char c) {
        if (c == '@') {
            at = At.GATHERER;
        } else if (c == '!' || c == '?') {
            begin('{');
        } else {
            at = At.EQUALS;
        }
    }

    private void begin(char what) {
        open.push(what);
        at = At.UNIT;
    }

    private void goUnit(char c, boolean digit) {
        digits = digit ? 1 : 0;
        if (c == '(' || c == '-') {
            open.push(c);
        } else {
            endUnit();
        }
    }

    private void endUnit() {
        while (open.peek() == '-') {
            open.pop();
        }
        at = At.AFTER;
    }

    private void goAfter(char c, boolean digit) {
        if (digit) {
            digits++;
            return;
        }
        digits = 0;
        at = At.UNIT;
        if (c == '<' || c == '>' || c == '=') {
            open.push("CDKP".charAt("/{[(".indexOf(open.pop())));
        } else if (")]/;}".indexOf(c) >= 0) {
            close(c);
        }
    }

    private void close(char c) {
        open.pop();
        switch (c) {
            case ')': endUnit(); break;
            case ']': at = At.EQUALS; break;
            case '/': at = At.BRACE; break;
            case ';': at = At.ACTION; break;
            default: at = At.DONE; break;
        }
    }

    private int depth() {
        int depth = 0;
        for (char c : open) {
            depth += c == '-' || c == '(' || c == 'P' ? 1 : 0;
        }
        return depth;
    }

    private String closing() {
        switch (open.peek()) {
            case '/': return "/<>=";
            case '{': return ";}<>=";
            case '[': return "]<>=";
            case '(': return ")<>=";
            case 'C': return "/";
            case 'D': return ";}";
            case 'K': return "]";
            default: return ")";
        }
    }
}
