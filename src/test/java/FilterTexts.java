import java.util.Random;

/** Filter texts by chance: correct ones, and ones with a byte put in, taken out or changed. */
final class FilterTexts {
    private static final String LETTERS = "lhwn<=>-0123456789#!()&|x";

    private FilterTexts() {
    }

    private static String factor(Random r, int depth) {
        int roll = r.nextInt(10);
        if (roll == 0) {
            return "!" + factor(r, depth + 1);
        }
        if (roll <= 2 && depth < 5) {
            return "(" + filter(r, depth + 1) + ")";
        }
        if (roll == 3) {
            return "#" + r.nextInt(4);
        }
        StringBuilder number = new StringBuilder(r.nextInt(4) == 0 ? "-" : "");
        int digits = 1 + r.nextInt(r.nextInt(3) == 0 ? 4 : 2);
        for (int i = 0; i < digits; i++) {
            number.append(r.nextInt(10));
        }
        return "" + "lhwn".charAt(r.nextInt(4)) + "<=>".charAt(r.nextInt(3)) + number;
    }

    private static String term(Random r, int depth) {
        String text = factor(r, depth);
        while (r.nextInt(3) == 0) {
            text += "&" + factor(r, depth);
        }
        return text;
    }

    private static String filter(Random r, int depth) {
        String text = term(r, depth);
        while (r.nextInt(3) == 0) {
            text += "|" + term(r, depth);
        }
        return text;
    }

    static String correct(Random r) {
        String text = filter(r, 0);
        return text.length() <= 60 ? text : correct(r);
    }

    static String some(Random r) {
        StringBuilder text = new StringBuilder(correct(r));
        int changes = r.nextInt(3);
        for (int i = 0; i < changes && text.length() > 0; i++) {
            int at = r.nextInt(text.length());
            char letter = LETTERS.charAt(r.nextInt(LETTERS.length()));
            int roll = r.nextInt(4);
            if (roll == 0) {
                text.setCharAt(at, letter);
            } else if (roll == 1) {
                text.insert(at, letter);
            } else if (roll == 2) {
                text.deleteCharAt(at);
            } else {
                text.setLength(at);
            }
        }
        return text.length() <= 60 ? text.toString() : some(r);
    }
}
