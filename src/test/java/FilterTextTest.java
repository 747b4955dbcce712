import java.util.Random;

/** Filter texts: what they mean, and where their errors are (promises 43 and 44). */
public final class FilterTextTest {
    private static final Checks c = new Checks();

    public static void main(String[] args) {
        errors();
        references();
        meanings();
        buffer();
        deepTexts();
        errorPositionsByCompletion();
        c.end();
    }

    private static void parsed(String text, int want) {
        c.due("parse " + text, want, () -> Checks.parse(new IntervalTree(), text));
    }

    private static void errors() {
        parsed("", -100);
        parsed("x", -100);
        parsed(" w<1", -100);
        parsed("|w<1", -100);
        parsed(")", -100);
        parsed("w", -101);
        parsed("ww", -101);
        parsed("w<", -102);
        parsed("w<=1", -102);
        parsed("w<-", -103);
        parsed("w<--1", -103);
        parsed("w<-x", -103);
        parsed("w<+1", -102);
        parsed("w<1", 3);
        parsed("w<1234", 3);
        parsed("w<12345", -106);
        parsed("w<-1234", 3);
        parsed("w<-12345", -107);
        parsed("w<0000", 3);
        parsed("w<00000", -106);
        parsed("w<-0", 3);
        parsed("w<1|", -104);
        parsed("w<1&", -104);
        parsed("w<1&|", -104);
        parsed("w<1||w<1", -104);
        parsed("w<1)", -103);
        parsed("(w<1", -104);
        parsed("(w<1))", -105);
        parsed("()", -101);
        parsed("((w<1)", -106);
        parsed("!", -101);
        parsed("!!w=1", 3);
        parsed("!)", -101);
        parsed("w<1!w<1", -103);
        parsed("w<1(w<1)", -103);
        parsed("w<1 ", -103);
        parsed("W<1", -100);
        parsed("w<1|(h>2&!l=-3)", 3);
        c.due("a zero byte", -103, () -> {
            IntervalTree x = new IntervalTree();
            Checks.feed(x, "n=1");
            x.feed(0);
            return x.parseFilter();
        });
        c.due("a byte of 255", -100, () -> {
            IntervalTree x = new IntervalTree();
            x.feed(255);
            return x.parseFilter();
        });
    }

    private static void references() {
        parsed("#", -101);
        parsed("#0", 3);
        parsed("#2", 3);
        parsed("#3", -101);
        parsed("#9", -101);
        parsed("#00", -102);
        parsed("#/", -101);
        parsed("#-1", -101);
        parsed("#0&#1", 3);
        parsed("#0&#1&#2", -106);
        parsed("#0|#1|!#2", -107);
        parsed("##", -101);
        IntervalTree x = new IntervalTree();
        c.due("an own number is no filter yet", -101, () -> Checks.parse(x, "#3"));
        c.due("the first", 3, () -> Checks.parse(x, "n=0"));
        c.due("the second", 4, () -> Checks.parse(x, "!#3"));
        c.due("the third", 5, () -> Checks.parse(x, "#4|#3"));
        c.due("not yet", -101, () -> Checks.parse(x, "#6"));
    }

    private static void meaning(String text, String want) {
        IntervalTree x = new IntervalTree();
        x.insert(-5, -5, 7);
        x.insert(-3, 4, 12);
        x.insert(0, 9, 12);
        x.insert(20, 21, 999);
        x.insert(100, 1000, 0);
        x.insert(300, 300, 5);
        int f = Checks.parse(x, text);
        StringBuilder ids = new StringBuilder();
        for (int id = 0; id < 6; id++) {
            ids.append(x.accepts(f, id) ? "" + id : "");
        }
        c.due("accepted by " + text, want, () -> ids.toString());
        c.due("count of " + text, want.length(), () -> x.matchCount(f));
    }

    private static void meanings() {
        meaning("l<0", "01");
        meaning("l<-3", "0");
        meaning("l=-3", "1");
        meaning("l>-3", "2345");
        meaning("l>-03", "2345");
        meaning("h<9", "01");
        meaning("h=9", "2");
        meaning("h>9", "345");
        meaning("h>999", "4");
        meaning("w=0012", "12");
        meaning("w=-0", "4");
        meaning("w>9999", "");
        meaning("w>-9999", "012345");
        meaning("n=0", "05");
        meaning("n>0", "1234");
        meaning("n<900", "01235");
        meaning("!n=0", "1234");
        meaning("!!n=0", "05");
        meaning("!!!n=0", "1234");
        meaning("n=0|w=12&l=0", "025");
        meaning("w=12&l=0|n=0", "025");
        meaning("(n=0|w=12)&l=0", "2");
        meaning("w=12&(l=0|n=0)", "2");
        meaning("!n=0&w=12", "12");
        meaning("!(n=0&w=7)", "12345");
        meaning("!(n=0|w=12)", "34");
        meaning("!n=0|n=0", "012345");
        meaning("n=0&!w=5|w=0", "04");
        meaning("l=0|l=20|l=100&h=5", "23");
        meaning("l=0&h=9|l=20&h=21|!l<300&n=0", "235");
        meaning("#0", "012345");
        meaning("#1", "05");
        meaning("#2", "1245");
        meaning("!#2", "03");
        meaning("#2&#1", "5");
        meaning("#2|#1", "01245");
        meaning("!(#2&!#1)", "035");
        meaning("((((((n=0))))))", "05");
        meaning("!(!(!(n=0)|w=7))", "01234");
    }

    private static void buffer() {
        IntervalTree x = new IntervalTree();
        c.due("first byte", 1, () -> x.feed('w'));
        c.illegalArgument("feed(-1)", () -> x.feed(-1));
        c.illegalArgument("feed(256)", () -> x.feed(256));
        c.due("second byte", 2, () -> x.feed('='));
        c.due("third byte", 3, () -> x.feed('1'));
        c.due("parse", 3, () -> x.parseFilter());
        c.due("empty afterwards", -100, () -> x.parseFilter());
        Checks.feed(x, "w>>");
        c.due("parse of an error", -102, () -> x.parseFilter());
        Checks.feed(x, "w>");
        c.due("bytes of an earlier text do not count", -102, () -> x.parseFilter());
        c.due("empty after an error", 1, () -> x.feed('('));
        for (int i = 2; i <= 60; i++) {
            final int n = i;
            c.due("byte " + i, n, () -> x.feed('('));
        }
        c.illegalState("byte 61", () -> x.feed('('));
        c.illegalArgument("a wrong byte 61", () -> x.feed(256));
        c.due("sixty brackets", -160, () -> x.parseFilter());
        for (int i = 4; i < 8; i++) {
            x.addRangeFilter(0, 0, 0);
        }
        Checks.feed(x, "w=");
        c.illegalState("parse with 8 filters", () -> x.parseFilter());
        c.due("buffer unchanged", 3, () -> x.feed('1'));
        c.illegalState("parse of a correct text with 8 filters", () -> x.parseFilter());
    }

    private static String repeat(String text, int count) {
        return text.repeat(count);
    }

    private static void deepTexts() {
        parsed(repeat("!", 58) + "#0", 3);
        parsed(repeat("!", 60), -160);
        parsed(repeat("(", 28) + "n=0" + repeat(")", 28), 3);
        parsed(repeat("(", 28) + "n=0" + repeat(")", 29), -159);
        parsed(repeat("(", 29) + "n=0" + repeat(")", 28), -160);
        // Every filter refers twice to the one before it: each must be decided once, and by its own depth alone.
        IntervalTree x = new IntervalTree();
        x.insert(1, 1, 0);
        for (int i = 3; i < 8; i++) {
            final int n = i;
            c.due("deep text " + i, n, () -> Checks.parse(x, repeat("!", 55) + "#" + (n - 1) + "&#" + (n - 1)));
        }
        c.due("the last deep text", 0, () -> x.matchCount(7));
        x.insert(1, 2, 0);
        c.due("the last deep text, overlapping", 0, () -> x.matchCount(7));
        c.due("the first deep text, overlapping", 0, () -> x.matchCount(3));
        // Operands that wait for a long time.
        parsed("l<1|(l<1|(l<1|(l<1|(l<1|(l<1|(l<1|(l<1|(l<1|l<1)))))))) ", -155);
        IntervalTree y = new IntervalTree();
        y.insert(5, 5, 0);
        c.due("nested", 3, () -> Checks.parse(y, "l=5&(l<1|(l=5&(l<1|(l=5&(l<1|(l=5&(l<1|(l=5&l=5))))))))"));
        c.due("nested answer", 1, () -> y.matchCount(3));
    }

    /** Whether a prefix can be continued to a correct text, tried with the least ends that can be needed. */
    private static boolean viable(String prefix) {
        String[] middles = {"", "0", "<0", "l<0"};
        for (String middle : middles) {
            for (int close = 0; close <= prefix.length(); close++) {
                if (correct(prefix + middle + ")".repeat(close))) {
                    return true;
                }
            }
        }
        return false;
    }

    private static boolean correct(String text) {
        return new Model.Descent(text, java.util.Collections.nCopies(3, i -> true)).whole() != null;
    }

    /** The error position by its definition: everything before it can be continued, and with its byte nothing can. */
    private static void errorPositionsByCompletion() {
        Random r = new Random(5);
        for (int i = 0; i < 3000; i++) {
            String text = FilterTexts.some(r);
            int want = 3;
            if (!correct(text)) {
                int at = 0;
                while (at < text.length() && viable(text.substring(0, at + 1))) {
                    at++;
                }
                want = -100 - at;
            }
            parsed(text, want);
        }
    }
}
