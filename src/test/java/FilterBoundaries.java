/** Filters and filter texts: promises 40 to 46. */
final class FilterBoundaries {
    private static final int MIN = Samples.MIN;
    private static final int MAX = Samples.MAX;

    private final Sentences s;

    FilterBoundaries(Sentences s) {
        this.s = s;
    }

    void test() {
        filters();
        madeFrom();
        textForm();
        textNumbers();
        textMeaning();
        errorPositions();
        references();
        rangeFilter();
        rangeFilterRefused();
        heavierFilter();
        combinedFilter();
        combinedFilterRefused();
        feed();
        parseFilter();
        matchCount();
        accepts();
    }

    /** 0: -5 of 7; 1: -3 to 4 of 12; 2: 0 to 9 of 12; 3: 20 to 21 of 999; 4: 100 to 1000 of 0; 5: 300 of 5. */
    private static IntervalTree six() {
        return Samples.of(Samples.row(-5, -5, 7), Samples.row(-3, 4, 12), Samples.row(0, 9, 12),
                Samples.row(20, 21, 999), Samples.row(100, 1000, 0), Samples.row(300, 300, 5));
    }

    /** The ids that a filter accepts, one after the other. */
    private static String accepted(IntervalTree x, int filter) {
        StringBuilder ids = new StringBuilder();
        for (int i = 0; i < 10; i++) {
            int id = i;
            ids.append(Checks.outcome(() -> x.accepts(filter, id)).equals("true") ? "" + id : "");
        }
        return ids.toString();
    }

    private static String accepted(String text) {
        IntervalTree x = six();
        return accepted(x, Checks.parse(x, text));
    }

    private void parsed(String text, int want) {
        s.due("'" + text + "'", want, () -> Checks.parse(new IntervalTree(), text));
    }

    private void meant(String text, String want) {
        s.due("'" + text + "'", want, () -> accepted(text));
    }

    private void filters() {
        s.in("Filters");
        s.says("A filter accepts or rejects an interval.");
        s.due("accepted", true, () -> six().accepts(1, 0));
        s.due("rejected", false, () -> six().accepts(1, 1));

        s.says("Filters are numbered from 0; there are at most 8.");
        IntervalTree x = Samples.points(1);
        s.due("the first", 1, () -> x.matchCount(0));
        s.illegalArgument("none before it", () -> x.matchCount(-1));
        for (int i = 3; i < 8; i++) {
            int number = i;
            s.illegalArgument("not yet " + number, () -> x.matchCount(number));
            s.due("number " + number, number, () -> x.addRangeFilter(0, 0, 0));
            s.due("exists: " + number, 1, () -> x.matchCount(number));
        }
        s.illegalState("the ninth", () -> x.addRangeFilter(0, 0, 0));
        s.illegalArgument("it does not exist", () -> x.matchCount(8));

        s.says("Initially there are three: filter 0 accepts all intervals, filter 1 those whose low end equals their");
        IntervalTree y = six();
        s.due("filter 0", "012345", () -> accepted(y, 0));
        s.due("filter 1", "05", () -> accepted(y, 1));
        s.due("filter 2", "1245", () -> accepted(y, 2));
        s.illegalArgument("no filter 3", () -> y.matchCount(3));
        y.remove(4);
        s.due("filter 2 when one is removed, which still overlaps a live one", "124", () -> accepted(y, 2));
        y.remove(5);
        s.due("filter 2 when both are removed", "12", () -> accepted(y, 2));
        y.restore(4);
        s.due("filter 2 when one of them is back", "125", () -> accepted(y, 2));
        y.insert(-5, -5, 0);
        s.due("filter 2 when a new one overlaps", "01256", () -> accepted(y, 2));
        s.due("filter 2, a common end", 2,
                () -> Samples.of(Samples.row(0, 5, 0), Samples.row(5, 9, 0)).matchCount(2));
        s.due("filter 2, side by side", 0,
                () -> Samples.of(Samples.row(0, 5, 0), Samples.row(6, 9, 0)).matchCount(2));
        s.due("filter 2, one interval", 0, () -> Samples.points(1).matchCount(2));
        s.due("filter 1, a length of 1", 0, () -> Samples.of(Samples.row(0, 1, 0)).matchCount(1));
    }

    private void madeFrom() {
        s.says("A filter that is made from other values or filters uses them as they are when it is made.");
        IntervalTree x = six();
        int heavier = x.addHeavierFilter(0);
        x.addWeight(-5, -5, 100);
        s.due("the weight of then", "0123", () -> accepted(x, heavier));
        x.setRebuildPercentage(100);
        x.remove(0);
        x.rebuild();
        s.due("the interval is gone", "123", () -> accepted(x, heavier));
        int combined = x.addCombinedFilter(2, 0, heavier);
        int parsed = Checks.parse(x, "!#" + combined);
        s.due("made from a made one", "45", () -> accepted(x, combined));
        s.due("made from that", "123", () -> accepted(x, parsed));
    }

    private void textForm() {
        s.in("Filter text");
        s.says("The text buffer contains at most 60 bytes.");
        IntervalTree x = new IntervalTree();
        Checks.feed(x, "((((((((((((((((((((((((((((n=0))))))))))))))))))))))))))))");
        s.due("the last byte", 60, () -> x.feed(')'));
        s.illegalState("one more", () -> x.feed(')'));
        s.due("59 bytes are a text, the 60th is too much", -159, () -> x.parseFilter());
        parsed("!" + "(".repeat(28) + "n=0" + ")".repeat(28), 3);

        s.says("A filter text has the following form, without blanks:");
        parsed("n=0", 3);
        parsed(" n=0", -100);
        parsed("n =0", -101);
        parsed("n= 0", -102);
        parsed("n=0 ", -103);
        parsed("n=0 |n=0", -103);
        parsed("n=0| n=0", -104);
        parsed("", -100);

        s.says("filter = term { \"|\" term }");
        parsed("n=0|n=1", 3);
        parsed("n=0|n=1|n=2|n=3|n=4|n=5|n=6|n=7|n=8|n=9|n=0|n=1|n=2|n=3|n=4", 3);
        parsed("|n=0", -100);
        parsed("n=0|", -104);
        parsed("n=0||n=0", -104);

        s.says("term = factor { \"&\" factor }");
        parsed("n=0&n=1", 3);
        parsed("n=0&n=1&n=2&n=3&n=4&n=5&n=6&n=7&n=8&n=9&n=0&n=1&n=2&n=3&n=4", 3);
        parsed("&n=0", -100);
        parsed("n=0&", -104);
        parsed("n=0&&n=0", -104);
        parsed("n=0|&n=0", -104);
        parsed("n=0&|n=0", -104);

        s.says("factor = \"!\" factor, or \"(\" filter \")\", or property comparison number, or \"#\" and the digit");
        parsed("!n=0", 3);
        parsed("!!n=0", 3);
        parsed("!".repeat(57) + "n=0", 3);
        parsed("!", -101);
        parsed("n=0!", -103);
        parsed("(n=0)", 3);
        parsed("(n=0|n=1&(n=2))", 3);
        parsed("()", -101);
        parsed("(n=0", -104);
        parsed("n=0)", -103);
        parsed("(n=0))", -105);
        parsed("(n=0)(n=0)", -105);
        parsed("!(n=0)", 3);
        parsed("(!n=0)", 3);
        parsed("#0", 3);
        parsed("#1", 3);
        parsed("#2", 3);
        parsed("#3", -101);
        parsed("#", -101);
        parsed("#00", -102);

        s.says("property = \"l\" (low end), \"h\" (high end), \"w\" (weight), \"n\" (high end minus low end)");
        meant("l=100", "4");
        meant("h=1000", "4");
        meant("w=999", "3");
        meant("n=900", "4");
        meant("n=0", "05");
        parsed("L=1", -100);
        parsed("k=1", -100);
        parsed("m=1", -100);
        parsed("o=1", -100);
        parsed("i=1", -100);
        parsed("g=1", -100);
        parsed("v=1", -100);
        parsed("x=1", -100);
        parsed("ll=1", -101);
        parsed("l", -101);

        s.says("comparison = \"<\", \"=\", \">\"");
        meant("l<0", "01");
        meant("l<1", "012");
        meant("l=0", "2");
        meant("l=1", "");
        meant("l>0", "345");
        meant("l>-1", "2345");
        meant("w<12", "045");
        meant("w<13", "01245");
        meant("w>12", "3");
        meant("w>11", "123");
        meant("n>-1", "012345");
        meant("n<0", "");
        parsed("l;0", -101);
        parsed("l?0", -101);
        parsed("l<=0", -102);
        parsed("l==0", -102);
        parsed("l<>0", -102);
        parsed("l!0", -101);
        parsed("l<", -102);
    }

    private void textNumbers() {
        s.says("number = an optional \"-\" and 1 to 4 digits, also zeros at the beginning");
        parsed("w=1", 3);
        parsed("w=12", 3);
        parsed("w=123", 3);
        parsed("w=1234", 3);
        parsed("w=12345", -106);
        parsed("w=-1", 3);
        parsed("w=-1234", 3);
        parsed("w=-12345", -107);
        parsed("w=", -102);
        parsed("w=-", -103);
        parsed("w=--1", -103);
        parsed("w=+1", -102);
        parsed("w=/", -102);
        parsed("w=:", -102);
        parsed("w=1/", -103);
        parsed("w=1:", -103);
        parsed("w=1-", -103);
        parsed("w=0000", 3);
        parsed("w=00000", -106);
        parsed("w=-0000", 3);
        parsed("w=-00000", -107);
        meant("w=0012", "12");
        meant("w=00", "4");
        meant("w=-0", "4");
        meant("l=-05", "0");
        meant("l=-5", "0");
        meant("l>-0005", "12345");
        meant("w<9999", "012345");
        meant("w>-9999", "012345");
        meant("w>9999", "");
        meant("w<-9999", "");
        for (int digit = 0; digit <= 9; digit++) {
            int weight = digit;
            s.due("digit " + digit, 1, () -> {
                IntervalTree x = Samples.of(Samples.row(0, 0, weight), Samples.row(0, 0, weight + 1));
                return x.matchCount(Checks.parse(x, "w=" + weight));
            });
        }
        IntervalTree y = Samples.of(Samples.row(0, 0, 999));
        for (int i = 0; i < 9; i++) {
            y.addWeight(0, 0, 1000);
        }
        s.due("the greatest number", 1, () -> y.matchCount(Checks.parse(y, "w=9999")));
        s.due("nothing above it", 0, () -> y.matchCount(Checks.parse(y, "w>9999")));
        y.addWeight(0, 0, 1);
        s.due("a weight above it", 1, () -> y.matchCount(Checks.parse(y, "w>9999")));
    }

    private void textMeaning() {
        s.says("| means or, & means and, ! means not.");
        meant("n=0|w=12", "0125");
        meant("w=12&l=0", "2");
        meant("!n=0", "1234");
        meant("!!n=0", "05");
        meant("n=0|w=12&l=0", "025");
        meant("w=12&l=0|n=0", "025");
        meant("(n=0|w=12)&l=0", "2");
        meant("!n=0&w=12", "12");
        meant("!n=0|w=7", "01234");
        meant("!(n=0&w=7)", "12345");
        meant("!(n=0|w=12)", "34");
        meant("n=0&!w=5|w=0", "04");
        meant("l=-5|l=0|l=20&h=9", "02");
        meant("l=-5&w=7|l=0&w=12|l=20", "023");
        meant("#2&#1", "5");
        meant("#2|#1", "01245");
        meant("!#2&#1", "0");
        meant("l<0|(l=0&(h=9|(h=8&!(w=1|!(w=2|w=3)))))", "012");

        s.says("Weights are those at the time when the filter is applied.");
        IntervalTree x = six();
        int filter = Checks.parse(x, "w>11");
        s.due("at first", "123", () -> accepted(x, filter));
        x.addWeight(-3, 0, -1);
        s.due("after a change", "3", () -> accepted(x, filter));
        x.addWeight(100, 100, 12);
        s.due("after another change", "34", () -> accepted(x, filter));
        s.due("counted", 2, () -> x.matchCount(filter));
        s.due("at a cursor", 3, () -> x.open(0, filter));
        x.addWeight(20, 20, -999);
        s.due("at an open cursor", 4, () -> x.next(0));
    }

    private void errorPositions() {
        s.says("The error position of a text is the index of the first byte that cannot continue a correct text, or");
        parsed("x", -100);
        parsed("n=0x", -103);
        parsed("n=0|x", -104);
        parsed("(n=0x)", -104);
        parsed("w>x", -102);
        parsed("w<1|h", -105);
        parsed("w<1|h<", -106);
        parsed("w<1|h<-", -107);
        parsed("((w<1)", -106);
        parsed("((w<1)|", -107);
        parsed("!(", -102);
        parsed("!(!", -103);
        parsed("(".repeat(60), -160);
        parsed("!".repeat(60), -160);
        parsed("!".repeat(59) + ")", -159);
        parsed("w<1" + "|w<1".repeat(14), 3);
        parsed("w<1" + "|w<1".repeat(14) + "|", -160);
        parsed("w<1" + "|w<1".repeat(14) + "x", -159);
        parsed("(".repeat(29) + "n=0" + ")".repeat(28), -160);
        parsed("x<1|y", -100);
        parsed("wn=0", -101);
        parsed("w(n=0)", -101);
        parsed("w!n=0", -101);
        parsed("w#0", -101);
        parsed("w=n=0", -102);
        parsed("w=!n=0", -102);
        parsed("w=(n=0)", -102);
        parsed("w=#0", -102);
        parsed("w=-n=0", -103);
        parsed("w=-#0", -103);
        parsed("n=0n=0", -103);
        parsed("n=0#0", -103);
        parsed("#0n=0", -102);
        parsed("#0!n=0", -102);
        parsed("#0(n=0)", -102);
        parsed("(n=0)n=0", -105);
        parsed("(n=0)!n=0", -105);
        parsed("(n=0)#0", -105);
        parsed("#3#0", -101);
        parsed("#3&#0", -101);
        s.due("a byte 0", -103, () -> bytes('n', '=', '1', 0));
        s.due("a byte 255", -100, () -> bytes(255));
        s.due("a byte that is a digit but for its eighth bit", -102, () -> bytes('n', '=', '1' + 128));
        s.due("a byte that is a bracket but for its eighth bit", -100, () -> bytes('(' + 128));
    }

    private static int bytes(int... letters) {
        IntervalTree x = new IntervalTree();
        for (int letter : letters) {
            x.feed(letter);
        }
        return x.parseFilter();
    }

    private void references() {
        s.says("A byte after \"#\" that is not the digit of an existing filter is such a byte, and so is a third");
        parsed("#/", -101);
        parsed("#:", -101);
        parsed("#9", -101);
        parsed("#-1", -101);
        parsed("##", -101);
        parsed("#n=0", -101);
        parsed("#0&#1", 3);
        parsed("#0&#0", 3);
        parsed("#0&#1|#2", -106);
        parsed("#0&#1|(#", -107);
        parsed("#0&#1|!#2", -107);
        parsed("#0|#3", -104);
        parsed("#0#", -102);
        parsed("#0|#1#", -105);
        parsed("#0|#1|n=0", 3);
        IntervalTree x = new IntervalTree();
        for (int i = 3; i < 8; i++) {
            int number = i;
            s.due("its own number " + number, -101, () -> Checks.parse(x, "#" + number));
            s.due("the number before " + number, number, () -> Checks.parse(x, "#" + (number - 1)));
        }
    }

    private void rangeFilter() {
        s.in("40");
        s.says("Adds a filter that accepts the intervals one of whose properties is in a range.");
        IntervalTree x = six();
        int filter = x.addRangeFilter(2, 7, 12);
        s.due("accepted", "012", () -> accepted(x, filter));
        x.addWeight(0, 0, 1);
        s.due("weights when it is applied", "01", () -> accepted(x, filter));

        s.says("- `property`: 0 for the low end, 1 for the high end, 2 for the weight, 3 for the high end minus the");
        s.due("low end", "4", () -> ranged(0, 100, 100));
        s.due("high end", "4", () -> ranged(1, 1000, 1000));
        s.due("weight", "3", () -> ranged(2, 999, 999));
        s.due("high end minus low end", "4", () -> ranged(3, 900, 900));

        s.says("- `from`: the least accepted value");
        s.due("at a value", "345", () -> ranged(0, 20, MAX));
        s.due("above it", "45", () -> ranged(0, 21, MAX));
        s.due("MIN", "01", () -> ranged(0, MIN, -1));
        s.due("MAX", "", () -> ranged(0, MAX, MAX));

        s.says("- `to`: the greatest accepted value, at least from");
        s.due("at a value", "0123", () -> ranged(0, MIN, 20));
        s.due("below it", "012", () -> ranged(0, MIN, 19));
        s.due("from itself", "3", () -> ranged(0, 20, 20));
        s.due("MAX", "345", () -> ranged(0, 1, MAX));
        s.due("MIN", "", () -> ranged(0, MIN, MIN));
        s.due("any", "012345", () -> ranged(2, MIN, MAX));

        s.says("Returns the number of the filter.");
        IntervalTree y = new IntervalTree();
        s.due("the first", 3, () -> y.addRangeFilter(0, 0, 0));
        s.due("the second", 4, () -> y.addRangeFilter(0, 0, 0));
    }

    private static String ranged(int property, int from, int to) {
        IntervalTree x = six();
        return accepted(x, x.addRangeFilter(property, from, to));
    }

    private void rangeFilterRefused() {
        s.says("Throws `IllegalArgumentException` if property is out of range or from is greater than to");
        IntervalTree x = Samples.busy();
        s.illegalArgument("property -1", () -> x.addRangeFilter(-1, 0, 0));
        s.illegalArgument("property 4", () -> x.addRangeFilter(4, 0, 0));
        s.illegalArgument("property MIN", () -> x.addRangeFilter(MIN, 0, 0));
        s.illegalArgument("property MAX", () -> x.addRangeFilter(MAX, 0, 0));
        s.illegalArgument("from is one greater", () -> x.addRangeFilter(0, 1, 0));
        s.illegalArgument("from MAX, to MIN", () -> x.addRangeFilter(0, MAX, MIN));
        s.illegalArgument("8 filters, property 4", () -> Samples.manyFilters().addRangeFilter(4, 0, 0));
        s.illegalArgument("8 filters, from is greater", () -> Samples.manyFilters().addRangeFilter(0, 1, 0));
        s.due("none was added", 6, () -> x.addRangeFilter(3, 0, 0));

        s.says("Throws `IllegalStateException` if there are 8 filters");
        s.due("7 filters", 7, () -> x.addRangeFilter(0, 0, 0));
        s.illegalState("8 filters", () -> x.addRangeFilter(0, 0, 0));
        s.illegalState("again", () -> x.addRangeFilter(3, MIN, MAX));
    }

    private void heavierFilter() {
        s.in("41");
        s.says("Adds a filter that accepts the intervals whose weight, when the filter is applied, is greater than");
        IntervalTree x = six();
        int filter = x.addHeavierFilter(0);
        s.due("greater, not equal", "123", () -> accepted(x, filter));
        x.addWeight(300, 300, 2);
        s.due("equal now", "123", () -> accepted(x, filter));
        x.addWeight(300, 300, 1);
        s.due("greater now", "1235", () -> accepted(x, filter));
        x.addWeight(-5, -5, 1);
        s.due("the interval itself, greater than it was", "01235", () -> accepted(x, filter));
        IntervalTree negative = six();
        negative.addWeight(MIN, MAX, -1000);
        int below = negative.addHeavierFilter(4);
        s.due("a negative weight", "01235", () -> accepted(negative, below));

        s.says("- `id`: the id of an interval in the tree");
        s.due("a removed one", 3, () -> Samples.mixed().addHeavierFilter(2));
        s.due("the least", 3, () -> Samples.points(3).addHeavierFilter(0));
        s.due("the greatest", 3, () -> Samples.points(3).addHeavierFilter(2));

        s.says("Returns the number of the filter.");
        IntervalTree y = Samples.points(1);
        s.due("the first", 3, () -> y.addHeavierFilter(0));
        s.due("the second", 4, () -> y.addHeavierFilter(0));

        s.says("Throws `NoSuchElementException` if no interval with this id is in the tree");
        IntervalTree m = Samples.mixed();
        for (int id : Samples.absentFromMixed()) {
            s.noSuchElement("id " + id, () -> m.addHeavierFilter(id));
        }
        s.noSuchElement("8 filters, a gone one", () -> Samples.manyFilters().addHeavierFilter(2));
        s.noSuchElement("8 filters, no such id", () -> Samples.manyFilters().addHeavierFilter(10));
        s.due("none was added", 3, () -> m.addHeavierFilter(1));

        s.says("Throws `IllegalStateException` if there are 8 filters");
        IntervalTree z = Samples.busy();
        z.addHeavierFilter(1);
        s.due("7 filters", 7, () -> z.addHeavierFilter(1));
        s.illegalState("8 filters", () -> z.addHeavierFilter(1));
    }

    private void combinedFilter() {
        s.in("42");
        s.says("Adds a filter that is made from two filters.");
        IntervalTree x = six();
        int light = x.addRangeFilter(2, 0, 10);
        int both = x.addCombinedFilter(0, light, 1);
        s.due("from a made one and an initial one", "05", () -> accepted(x, both));
        int without = x.addCombinedFilter(2, both, 2);
        s.due("from a combined one", "0", () -> accepted(x, without));
        x.insert(-6, -4, 500);
        s.due("when it is applied", "", () -> accepted(x, without));

        s.says("- `kind`: 0: it accepts what both accept; 1: it accepts what at least one of them accepts; 2: it");
        s.due("kind 0", "5", () -> combined(0, 1, 2));
        s.due("kind 1", "01245", () -> combined(1, 1, 2));
        s.due("kind 2", "0", () -> combined(2, 1, 2));
        s.due("kind 2, the other way", "124", () -> combined(2, 2, 1));

        s.says("- `first`: the number of the first filter");
        s.due("the least", "012345", () -> combined(0, 0, 0));
        s.due("the greatest", "05", () -> combined(0, 3, 1));

        s.says("- `second`: the number of the second filter, possibly the same");
        s.due("the least", "05", () -> combined(0, 1, 0));
        s.due("the greatest", "05", () -> combined(0, 1, 3));
        s.due("the same, kind 0", "05", () -> combined(0, 1, 1));
        s.due("the same, kind 1", "05", () -> combined(1, 1, 1));
        s.due("the same, kind 2", "", () -> combined(2, 1, 1));

        s.says("Returns the number of the filter.");
        IntervalTree y = new IntervalTree();
        s.due("the first", 3, () -> y.addCombinedFilter(0, 0, 0));
        s.due("the second", 4, () -> y.addCombinedFilter(2, 3, 3));
    }

    /** The filter 3 of this object accepts what has at most the weight 7. */
    private static String combined(int kind, int first, int second) {
        IntervalTree x = six();
        x.addRangeFilter(2, MIN, 7);
        return accepted(x, x.addCombinedFilter(kind, first, second));
    }

    private void combinedFilterRefused() {
        s.says("Throws `IllegalArgumentException` if kind is out of range or a filter does not exist");
        IntervalTree x = Samples.busy();
        s.illegalArgument("kind -1", () -> x.addCombinedFilter(-1, 0, 0));
        s.illegalArgument("kind 3", () -> x.addCombinedFilter(3, 0, 0));
        s.illegalArgument("kind MIN", () -> x.addCombinedFilter(MIN, 0, 0));
        s.illegalArgument("kind MAX", () -> x.addCombinedFilter(MAX, 0, 0));
        for (int missing : new int[] {-1, 6, 7, 8, MIN, MAX}) {
            s.illegalArgument("first " + missing, () -> x.addCombinedFilter(0, missing, 0));
            s.illegalArgument("second " + missing, () -> x.addCombinedFilter(0, 0, missing));
            s.illegalArgument("both " + missing, () -> x.addCombinedFilter(0, missing, missing));
        }
        s.illegalArgument("8 filters, kind 3", () -> Samples.manyFilters().addCombinedFilter(3, 0, 0));
        s.illegalArgument("8 filters, first 8", () -> Samples.manyFilters().addCombinedFilter(0, 8, 0));
        s.illegalArgument("8 filters, second 8", () -> Samples.manyFilters().addCombinedFilter(0, 0, 8));
        s.due("none was added", 6, () -> x.addCombinedFilter(0, 5, 5));

        s.says("Throws `IllegalStateException` if there are 8 filters");
        s.due("7 filters", 7, () -> x.addCombinedFilter(0, 6, 6));
        s.illegalState("8 filters", () -> x.addCombinedFilter(0, 7, 7));
    }

    private void feed() {
        s.in("43");
        s.says("Appends a byte to the text buffer.");
        IntervalTree x = six();
        x.feed('n');
        x.feed('>');
        x.feed('1');
        int filter = x.parseFilter();
        s.due("in this order", "124", () -> accepted(x, filter));

        s.says("- `letter`: the byte, 0 to 255");
        s.due("the least", 1, () -> x.feed(0));
        s.due("the greatest", 2, () -> x.feed(255));
        for (int letter = 1; letter < 58; letter++) {
            int any = 4 * letter;
            s.due("letter " + any, letter + 2, () -> x.feed(any));
        }

        s.says("Returns the number of bytes in the buffer.");
        s.due("the last", 60, () -> x.feed(7));
        IntervalTree y = new IntervalTree();
        s.due("the first", 1, () -> y.feed('('));
        s.due("the second", 2, () -> y.feed('('));
        y.parseFilter();
        s.due("the first again", 1, () -> y.feed('('));

        s.says("Throws `IllegalArgumentException` if letter is out of range");
        s.illegalArgument("-1", () -> y.feed(-1));
        s.illegalArgument("256", () -> y.feed(256));
        s.illegalArgument("MIN", () -> y.feed(MIN));
        s.illegalArgument("MAX", () -> y.feed(MAX));
        s.illegalArgument("'n' with higher bits", () -> y.feed('n' + 256));
        s.illegalArgument("60 bytes, -1", () -> Samples.muchText().feed(-1));
        s.illegalArgument("60 bytes, 256", () -> Samples.muchText().feed(256));
        s.due("none was appended", 2, () -> y.feed('('));

        s.says("Throws `IllegalStateException` if there are 60 bytes");
        for (int i = 3; i <= 60; i++) {
            int length = i;
            s.due("length " + length, length, () -> y.feed('('));
        }
        s.illegalState("60 bytes", () -> y.feed(')'));
        s.illegalState("again", () -> y.feed(')'));
        s.due("none was appended to 60", -160, () -> y.parseFilter());
        s.due("room again", 1, () -> y.feed(')'));
    }

    private void parseFilter() {
        s.in("44");
        s.says("Adds a filter that is described by the text in the buffer.");
        IntervalTree x = six();
        Checks.feed(x, "w>7&!n=0");
        int filter = x.parseFilter();
        s.due("accepted", "123", () -> accepted(x, filter));
        s.due("counted", 3, () -> x.matchCount(filter));

        s.says("The buffer is empty afterwards, also if the text has an error.");
        s.due("after a text", 1, () -> x.feed('w'));
        s.due("after it, nothing of it is left", -101, () -> x.parseFilter());
        s.due("after an error", 1, () -> x.feed('w'));
        x.parseFilter();
        s.due("an empty text", -100, () -> x.parseFilter());
        s.due("after an empty text", -100, () -> x.parseFilter());
        s.due("a shorter text after a longer one", -101, () -> {
            Checks.parse(x, "w=1w=1");
            return Checks.parse(x, "w");
        });

        s.says("Returns the number of the filter, or -100 minus the error position if the text has an error, in which");
        IntervalTree y = six();
        s.due("the first", 3, () -> Checks.parse(y, "n=0"));
        s.due("an error at 0", -100, () -> Checks.parse(y, ")"));
        s.illegalArgument("no filter by an error", () -> y.matchCount(4));
        s.due("an error at 59", -159, () -> Checks.parse(y, "!".repeat(59) + "x"));
        s.due("an error at 60", -160, () -> Checks.parse(y, "!".repeat(60)));
        s.due("an error in a part", -104, () -> Checks.parse(y, "n=0|"));
        s.illegalArgument("no filter by errors", () -> y.matchCount(4));
        s.due("the second", 4, () -> Checks.parse(y, "!n=0"));
        s.due("the first is as it was", "05", () -> accepted(y, 3));

        s.says("Throws `IllegalStateException` if there are 8 filters, whatever the text is, in which case the buffer");
        IntervalTree z = Samples.busy();
        z.feed('1');
        z.addRangeFilter(0, 0, 0);
        s.due("7 filters", 7, () -> z.parseFilter());
        s.illegalState("an empty text", () -> z.parseFilter());
        s.due("still empty", 1, () -> z.feed('n'));
        s.illegalState("a text with an error", () -> z.parseFilter());
        s.due("still one byte", 2, () -> z.feed('='));
        s.due("the third byte", 3, () -> z.feed('0'));
        s.illegalState("a correct text", () -> z.parseFilter());
        s.due("still three bytes", 4, () -> z.feed('0'));
    }

    private void matchCount() {
        s.in("45");
        s.says("Returns the number of intervals that a filter accepts.");
        IntervalTree x = six();
        s.due("all", 6, () -> x.matchCount(0));
        s.due("points", 2, () -> x.matchCount(1));
        s.due("overlapping ones", 4, () -> x.matchCount(2));
        x.remove(5);
        s.due("live ones only", 5, () -> x.matchCount(0));
        s.due("live points only", 1, () -> x.matchCount(1));
        s.due("overlapping live ones only", 2, () -> x.matchCount(2));

        s.says("- `filter`: the number of the filter");
        IntervalTree y = Samples.manyFilters();
        s.due("the least", 7, () -> y.matchCount(0));
        s.due("the greatest", 1, () -> y.matchCount(7));

        s.says("Returns the number of intervals.");
        s.due("none", 0, () -> new IntervalTree().matchCount(0));
        s.due("a hundred", 100, () -> Samples.points(100).matchCount(1));

        s.says("Throws `IllegalArgumentException` if the filter does not exist");
        s.illegalArgument("-1", () -> x.matchCount(-1));
        s.illegalArgument("3", () -> x.matchCount(3));
        s.illegalArgument("7", () -> x.matchCount(7));
        s.illegalArgument("8", () -> y.matchCount(8));
        s.illegalArgument("MIN", () -> x.matchCount(MIN));
        s.illegalArgument("MAX", () -> x.matchCount(MAX));
    }

    private void accepts() {
        s.in("46");
        s.says("Returns whether a filter accepts an interval in the tree, live or removed.");
        IntervalTree x = six();
        x.remove(1);
        s.due("a live one", true, () -> x.accepts(0, 0));
        s.due("a removed one", true, () -> x.accepts(0, 1));
        s.due("a removed one that overlaps a live one", true, () -> x.accepts(2, 1));
        s.due("a live one that overlaps a removed one", false, () -> x.accepts(2, 2));

        s.says("- `filter`: the number of the filter");
        IntervalTree y = Samples.manyFilters();
        s.due("the least", true, () -> y.accepts(0, 0));
        s.due("the greatest, a light one", false, () -> y.accepts(7, 5));
        s.due("the greatest, a heavy one", true, () -> y.accepts(7, 1));

        s.says("- `id`: the id of the interval");
        IntervalTree m = Samples.mixed();
        s.due("the least in the tree", true, () -> m.accepts(1, 1));
        s.due("the greatest", true, () -> m.accepts(1, 3));
        s.due("the least of all", true, () -> Samples.points(1).accepts(1, 0));

        s.says("Returns true if the filter accepts it.");
        s.due("a point", true, () -> x.accepts(1, 5));
        s.due("no point", false, () -> x.accepts(1, 4));

        s.says("Throws `IllegalArgumentException` if the filter does not exist");
        for (int missing : new int[] {-1, 3, 7, 8, MIN, MAX}) {
            s.illegalArgument("filter " + missing, () -> m.accepts(missing, 1));
            s.illegalArgument("filter " + missing + " and no interval", () -> m.accepts(missing, -1));
            s.illegalArgument("filter " + missing + " and a gone one", () -> m.accepts(missing, 0));
        }

        s.says("Throws `NoSuchElementException` if no interval with this id is in the tree");
        for (int id : Samples.absentFromMixed()) {
            s.noSuchElement("id " + id, () -> m.accepts(0, id));
        }
        s.noSuchElement("no intervals", () -> new IntervalTree().accepts(0, 0));
    }
}
