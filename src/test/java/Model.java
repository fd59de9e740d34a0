import java.util.ArrayDeque;
import java.util.ArrayList;
import java.util.Deque;
import java.util.LinkedHashMap;
import java.util.List;
import java.util.Map;
import java.util.NoSuchElementException;

/** The document told again in the plainest way: RULES stay texts, and every figure is found anew. */
final class Model {
    private static final class Failure extends Exception {
        private static final long serialVersionUID = 1L;
    }

    private static final class Rule {
        String text;
        boolean on;
        int failures;
        int meetings;
    }

    private final StringBuilder text = new StringBuilder();
    private final Rule[] rules = new Rule[6];
    private final double[][] variables = new double[4][6];
    private final List<Map<Integer, List<Double>>> gatherers = new ArrayList<>();
    private final Deque<Double> records = new ArrayDeque<>();
    private int time;
    private int place = -1;
    private int lost;
    private int dropped;
    private int firings;

    private String reading;
    private int at;
    private int thread;
    private double[] handed;

    Model() {
        for (int g = 0; g < 3; g++) {
            gatherers.add(new LinkedHashMap<>());
        }
    }

    private static void need(boolean holds) {
        if (!holds) {
            throw new IllegalArgumentException();
        }
    }

    private static void there(boolean holds) {
        if (!holds) {
            throw new NoSuchElementException();
        }
    }

    private static boolean in(double number, double least, double greatest) {
        return number >= least && number <= greatest;
    }

    int type(long eight) {
        StringBuilder more = new StringBuilder();
        for (int i = 7; i >= 0; i--) {
            char c = (char) (eight >> 8 * i & 0xFF);
            need(c == 0 || in(c, 33, 126));
            if (c != 0) {
                more.append(c);
            }
        }
        if (text.length() + more.length() > 48) {
            throw new IllegalStateException();
        }
        return text.append(more).length();
    }

    int compile(int k) {
        need(in(k, 0, 5));
        String whole = text.toString();
        text.setLength(0);
        int wrong = Grammar.place(whole);
        place = wrong < 0 ? place : wrong;
        need(wrong < 0);
        rules[k] = new Rule();
        rules[k].text = whole;
        return whole.split(";").length;
    }

    int turn(int k, boolean on) {
        need(in(k, 0, 5));
        there(rules[k] != null);
        rules[k].on = on;
        return count(3);
    }

    int fire(int site, boolean exit, int ofThread, double a, double b, double c) {
        need(in(site, 0, 7) && in(ofThread, 0, 3) && in(a, -1000, 1000) && in(b, -1000, 1000) && in(c, -1000, 1000));
        thread = ofThread;
        handed = new double[] {a, b, c};
        int met = 0;
        boolean any = false;
        for (Rule rule : rules) {
            if (rule != null && rule.on && rule.text.startsWith((exit ? "x" : "e") + site)) {
                any = true;
                int before = rule.meetings;
                try {
                    run(rule);
                } catch (Failure e) {
                    rule.failures++;
                }
                met += rule.meetings - before;
            }
        }
        firings += any ? 1 : 0;
        return met;
    }

    private void run(Rule rule) throws Failure {
        reading = rule.text;
        at = 2;
        if (reading.charAt(at) == '/') {
            at++;
            if (e() == 0.0) {
                return;
            }
            at++;
        }
        rule.meetings++;
        while (at < reading.length() - 1) {
            at++;
            char kind = reading.charAt(at);
            at++;
            if (kind == '!') {
                records.add(e());
                if (records.size() > 6) {
                    records.remove();
                    lost++;
                }
            } else if (kind == '?') {
                if (e() == 0.0) {
                    return;
                }
            } else if (kind == '@') {
                gather();
            } else {
                at++;
                set(kind - 'u', e());
            }
        }
    }

    private void set(int number, double value) {
        for (int t = 0; t < 4; t++) {
            if (number < 3 || t == thread) {
                variables[t][number] = value;
            }
        }
    }

    private void gather() throws Failure {
        Map<Integer, List<Double>> gatherer = gatherers.get(reading.charAt(at) - 'A');
        at += 2;
        int key = (int) e();
        at += 2;
        double value = e();
        if (!gatherer.containsKey(key) && gatherer.size() == 4) {
            dropped++;
            return;
        }
        bounded(sum(gatherer.getOrDefault(key, List.of())) + value);
        gatherer.computeIfAbsent(key, none -> new ArrayList<>()).add(value);
    }

    private static double sum(List<Double> values) {
        double sum = 0.0;
        for (double value : values) {
            sum += value;
        }
        return sum;
    }

    private static double bounded(double outcome) throws Failure {
        if (!in(outcome, -1e9, 1e9)) {
            throw new Failure();
        }
        return outcome;
    }

    private double e() throws Failure {
        double left = sum();
        char c = reading.charAt(at);
        if (c != '<' && c != '>' && c != '=') {
            return left;
        }
        at++;
        double right = sum();
        boolean holds = c == '<' ? left < right : c == '>' ? left > right : left == right;
        return holds ? 1.0 : 0.0;
    }

    private double sum() throws Failure {
        double left = term();
        while (reading.charAt(at) == '+' || reading.charAt(at) == '-') {
            boolean plus = reading.charAt(at) == '+';
            at++;
            double right = term();
            left = bounded(plus ? left + right : left - right);
        }
        return left;
    }

    private double term() throws Failure {
        double left = unit();
        while (reading.charAt(at) == '*' || reading.charAt(at) == ':') {
            boolean times = reading.charAt(at) == '*';
            at++;
            double right = unit();
            if (!times && right == 0.0) {
                throw new Failure();
            }
            left = bounded(times ? left * right : left / right);
        }
        return left;
    }

    private double unit() throws Failure {
        char c = reading.charAt(at);
        at++;
        if (c == '-') {
            return -unit();
        }
        if (c == '(') {
            double inside = e();
            at++;
            return inside;
        }
        if (c >= '0' && c <= '9') {
            int from = at - 1;
            while (Character.isDigit(reading.charAt(at))) {
                at++;
            }
            return Integer.parseInt(reading.substring(from, at));
        }
        return c == 't' ? time : c == 'k' ? thread : c <= 'c' ? handed[c - 'a'] : variables[thread][c - 'u'];
    }

    int tick(int n) {
        need(in(n, 1, 100));
        return time += n;
    }

    double variable(int number, int ofThread) {
        need(in(number, 0, 5) && (number < 3 || in(ofThread, 0, 3)));
        return variables[number < 3 ? 0 : ofThread][number];
    }

    private List<Double> values(int g, int key) {
        there(gatherers.get(g).containsKey(key));
        return gatherers.get(g).get(key);
    }

    double gathered(int g, int key, int what) {
        need(in(g, 0, 2) && in(what, 0, 3));
        List<Double> values = values(g, key);
        double least = values.get(0);
        double greatest = values.get(0);
        for (double value : values) {
            least = value < least ? value : least;
            greatest = value > greatest ? value : greatest;
        }
        double sum = sum(values);
        return new double[] {sum, least, greatest, sum / values.size()}[what];
    }

    int many(int g, int key, int i) {
        need(in(g, 0, 2) && in(i, 0, 8));
        List<Double> values = values(g, key);
        double from = i == 0 ? Double.NEGATIVE_INFINITY : Math.pow(2, i - 1);
        double to = i == 7 ? Double.POSITIVE_INFINITY : Math.pow(2, i);
        int many = 0;
        for (double value : values) {
            many += i == 8 || value >= from && value < to ? 1 : 0;
        }
        return many;
    }

    double record() {
        there(!records.isEmpty());
        return records.remove();
    }

    int count(int what) {
        int rulesThere = 0;
        int on = 0;
        for (Rule rule : rules) {
            rulesThere += rule != null ? 1 : 0;
            on += rule != null && rule.on ? 1 : 0;
        }
        if (in(what, 20, 25)) {
            return rules[what - 20] == null ? -1 : rules[what - 20].failures;
        }
        if (in(what, 30, 35)) {
            return rules[what - 30] == null ? -1 : rules[what - 30].meetings;
        }
        int[] answers = {place, text.length(), rulesThere, on, records.size(), lost, dropped, firings,
            gatherers.get(0).size(), gatherers.get(1).size(), gatherers.get(2).size()};
        return in(what, 0, 10) ? answers[what] : -2;
    }
}
