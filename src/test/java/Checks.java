import java.util.NoSuchElementException;

/** Counts the answers that are not as due; a test ends with end(). */
final class Checks {
    interface Call {
        Object answer();
    }

    private int wrong = 0;
    private int made = 0;

    /** The answer of a call: its value, or "throws." and the exact class of what it throws. */
    static String outcome(Call call) {
        try {
            return String.valueOf(call.answer());
        } catch (RuntimeException e) {
            return "throws." + e.getClass().getSimpleName();
        }
    }

    void due(String what, Object want, Call call) {
        made++;
        String got = outcome(call);
        if (!got.equals(String.valueOf(want))) {
            wrong++;
            System.out.println(what + " answered " + got + ", due is " + want);
        }
    }

    void illegalArgument(String what, Call call) {
        due(what, "throws." + IllegalArgumentException.class.getSimpleName(), call);
    }

    void illegalState(String what, Call call) {
        due(what, "throws." + IllegalStateException.class.getSimpleName(), call);
    }

    void noSuchElement(String what, Call call) {
        due(what, "throws." + NoSuchElementException.class.getSimpleName(), call);
    }

    void outOfBounds(String what, Call call) {
        due(what, "throws." + IndexOutOfBoundsException.class.getSimpleName(), call);
    }

    void end() {
        System.out.println(made + " answers, " + wrong + " not as due");
        if (wrong != 0 || made == 0) {
            System.exit(1);
        }
    }

    static void feed(IntervalTree x, String text) {
        for (int i = 0; i < text.length(); i++) {
            x.feed(text.charAt(i));
        }
    }

    static int parse(IntervalTree x, String text) {
        feed(x, text);
        return x.parseFilter();
    }
}
