/** Boundaries of what the document tells under A ROUND. */
final class RoundBoundaries {
    private static final long NO_VALUE = Check.NO_VALUE;
    private static final int MEAN = 0;
    private static final int MIDPOINT = 1;
    private static final int MEDIAN = 2;
    private static final int SELECT = 3;

    private RoundBoundaries() {
    }

    static void test(Sentences s) {
        s.section("A ROUND");
        atTheSameTime(s);
        fewIntervals(s);
        theRest(s);
        mean(s);
        midpoint(s);
        median(s);
        select(s);
        firstRule(s);
    }

    /** All nodes receive all inputs, so that they all have the value that is due after a round. */
    private static void gives(Check c, int trim, int rule, long numerator, long denominator,
            String... inputs) {
        IntervalAgreement x = c.nodes(trim, 720720, inputs);
        x.setRule(rule);
        x.run(1);
        c.value(x, 0, 1, numerator, denominator);
        c.value(x, inputs.length - 1, 1, numerator, denominator);
    }

    private static void atTheSameTime(Sentences s) {
        s.test("In a round, all correct nodes get new values at the same time.", c -> {
            IntervalAgreement x = c.nodes(0, 720720, "0", "8");
            x.run(1);
            c.value(x, 0, 1, 4, 1);
            c.value(x, 1, 1, 4, 1);
            IntervalAgreement y = c.nodes(0, 720720, "0", "9", "0");
            y.setFaulty(2, 2, 0, 1);
            y.run(1);
            // Node 1 gets 9 from the splitting node, and node 0 gets 0, as it was before.
            c.value(y, 0, 1, 3, 1);
            c.value(y, 1, 1, 6, 1);
        });
    }

    private static void fewIntervals(Sentences s) {
        s.test("Let k be the number of intervals that a node receives.", c -> {
            IntervalAgreement x = Check.fresh(10, 0, 60);
            c.rest(x, 9, 9, true, 0, 1);
            c.rest(x, 9, 10, true, NO_VALUE, NO_VALUE);
            for (int from = 0; from < 9; from++) {
                x.setLink(from, 9, -1);
            }
            // Its own value is left.
            c.rest(x, 9, 0, true, 0, 1);
            c.rest(x, 9, 1, true, NO_VALUE, NO_VALUE);
            c.rest(x, 0, 9, true, 0, 1);
        });
        s.test("If k is at most 2 * t, its value stays.", c -> {
            for (int trim = 1; trim <= 3; trim++) {
                IntervalAgreement x = Check.fresh(2 * trim + 1, trim, 60);
                c.input(x, 0, "8..9");
                x.setLink(2 * trim, 0, -1);
                x.run(1);
                c.end(x, 0, 1, false, 8, 1);
                c.end(x, 0, 1, true, 9, 1);
                x.setLink(2 * trim, 0, 0);
                x.run(1);
                c.value(x, 0, 2, 0, 1);
            }
            IntervalAgreement two = c.nodes(3, 60, "1", "2");
            two.run(60);
            c.value(two, 0, 60, 1, 1);
            c.value(two, 1, 60, 2, 1);
        });
    }

    private static void theRest(Sentences s) {
        s.test("Otherwise its new low end is computed from the low ends, and its new high end from the"
                + " high ends, in the same way: the k numbers are put in ascending order, the first t"
                + " and the last t of them are discarded, and the rest, x(0) to x(s - 1) in ascending"
                + " order, is combined by the rule, and rounded down:", c -> {
            IntervalAgreement one = c.nodes(1, 60, "-5..9", "-4..0", "-3..1");
            c.rest(one, 0, 0, false, -4, 1);
            c.rest(one, 0, 0, true, 1, 1);
            c.rest(one, 0, 1, true, NO_VALUE, NO_VALUE);
            for (int rule = MEAN; rule <= SELECT; rule++) {
                one.setRule(rule);
                one.run(1);
                c.end(one, 2, 1, false, -4, 1);
                c.end(one, 2, 1, true, 1, 1);
                one.back(1);
                gives(c, 0, rule, -1, 720720, "-1/720720", "-1/720720");
            }
            IntervalAgreement ten = c.nodes(3, 60, "9", "1", "8", "2", "7", "3", "6", "4", "5", "0");
            for (int k = 0; k < 4; k++) {
                c.rest(ten, 9, k, false, 3 + k, 1);
            }
            c.rest(ten, 9, 4, false, NO_VALUE, NO_VALUE);
            IntervalAgreement all = c.nodes(0, 60, "9", "-7", "9");
            c.rest(all, 1, 0, false, -7, 1);
            c.rest(all, 1, 2, false, 9, 1);
            c.rest(all, 1, 3, false, NO_VALUE, NO_VALUE);
        });
    }

    private static void mean(Sentences s) {
        s.test("0 mean: the sum of the rest, divided by s;", c -> {
            gives(c, 1, MEAN, 2, 1, "1", "2", "99");
            gives(c, 1, MEAN, 5, 2, "1", "2", "3", "99");
            gives(c, 0, MEAN, 11, 2, "1", "2", "3", "4", "5", "6", "7", "8", "9", "10");
            gives(c, 0, MEAN, -240241, 720720, "-1", "-1/720720", "0");
        });
    }

    private static void midpoint(Sentences s) {
        s.test("1 midpoint: (x(0) + x(s - 1)) / 2;", c -> {
            gives(c, 1, MIDPOINT, 2, 1, "1", "2", "99");
            gives(c, 1, MIDPOINT, 5, 2, "1", "2", "3", "99");
            gives(c, 1, MIDPOINT, 6, 1, "1", "2", "3", "10", "99");
            gives(c, 0, MIDPOINT, 11, 2, "1", "2", "2", "2", "2", "2", "2", "2", "2", "10");
            gives(c, 0, MIDPOINT, -1, 720720, "-1/720720", "0");
        });
    }

    private static void median(Sentences s) {
        s.test("2 median: the middle one, or, if s is even, the sum of the two middle ones, divided by"
                + " 2;", c -> {
            gives(c, 1, MEDIAN, 2, 1, "1", "2", "99");
            gives(c, 1, MEDIAN, 5, 2, "1", "2", "3", "99");
            gives(c, 1, MEDIAN, 3, 1, "1", "2", "3", "10", "99");
            gives(c, 1, MEDIAN, 13, 2, "1", "2", "3", "10", "20", "99");
            gives(c, 0, MEDIAN, 5, 1, "0", "0", "0", "0", "3", "7", "9", "9", "9", "9");
            gives(c, 0, MEDIAN, -1, 720720, "-1/720720", "0");
        });
    }

    private static void select(Sentences s) {
        s.test("3 select: the mean of x(0), x(d), x(2 * d) and so on, where d is the greater one of 1"
                + " and t.", c -> {
            gives(c, 0, SELECT, 2, 1, "0", "1", "5");
            gives(c, 1, SELECT, 4, 1, "0", "1", "2", "9", "10");
            // With d = 2, of 1 to 6 numbers.
            gives(c, 2, SELECT, 1, 1, "0", "0", "1", "90", "90");
            gives(c, 2, SELECT, 1, 1, "0", "0", "1", "5", "90", "90");
            gives(c, 2, SELECT, 5, 1, "0", "0", "1", "5", "9", "90", "90");
            gives(c, 2, SELECT, 5, 1, "0", "0", "1", "5", "9", "30", "90", "90");
            gives(c, 2, SELECT, 20, 1, "0", "0", "1", "5", "9", "30", "50", "90", "90");
            gives(c, 2, SELECT, 20, 1, "0", "0", "1", "5", "9", "30", "50", "70", "90", "90");
            // With d = 3, of 1 to 4 numbers.
            gives(c, 3, SELECT, 1, 1, "0", "0", "0", "1", "90", "90", "90");
            gives(c, 3, SELECT, 1, 1, "0", "0", "0", "1", "5", "90", "90", "90");
            gives(c, 3, SELECT, 1, 1, "0", "0", "0", "1", "5", "9", "90", "90", "90");
            gives(c, 3, SELECT, 16, 1, "0", "0", "0", "1", "5", "9", "31", "90", "90", "90");
            gives(c, 0, SELECT, -240241, 720720, "-1", "-1/720720", "0");
        });
    }

    private static void firstRule(Sentences s) {
        s.test("The rule is 0 at first.", c -> {
            c.same("rule of a new object", new IntervalAgreement().count(5), 0);
            c.same("setRule of a new object", new IntervalAgreement().setRule(3), 0);
            IntervalAgreement x = c.nodes(0, 60, "1", "2", "6");
            x.run(1);
            c.value(x, 0, 1, 3, 1);
        });
    }
}
