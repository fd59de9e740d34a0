/** THE PLACE of many texts, and which of them are right, against the language told another way. */
public final class PlaceTest {
    private static final int TEXTS = 60000;

    public static void main(String[] args) {
        Texts texts = new Texts(20261115L);
        int right = 0;
        int wrong = 0;
        for (int n = 0; n < TEXTS; n++) {
            String text = n % 4 == 0 ? texts.right() : texts.spoiled();
            int due = Grammar.place(text);
            RuleTracer x = new RuleTracer();
            if (due < 0) {
                right++;
                Check.same(text, Check.compile(x, 0, text), 1 + text.chars().filter(c -> c == ';').count());
            } else {
                wrong++;
                Check.bad(text, () -> Check.compile(x, 0, text));
            }
            Check.same("THE PLACE of " + text, x.count(0), due);
            Check.same("the text is empty after " + text, x.count(1), 0);
        }
        Check.isTrue("many texts of each kind", right > TEXTS / 10 && wrong > TEXTS / 10);
        System.out.println("PlaceTest: " + right + " right texts, " + wrong + " wrong ones");
        Check.finish("PlaceTest");
    }
}
