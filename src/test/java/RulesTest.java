/** Promise 19, and a round: what is discarded, and the four rules. */
public final class RulesTest {
    private static final int MEAN = 0;
    private static final int MIDPOINT = 1;
    private static final int MEDIAN = 2;
    private static final int SELECT = 3;

    public static void main(String[] args) {
        Check c = new Check("RulesTest");
        rest(c);
        restRefuses(c);
        trimOfOne(c);
        trimOfTwo(c);
        trimOfThree(c);
        selectOfMany(c);
        roundedDown(c);
        fewStay(c);
        endsApart(c);
        c.finish();
    }

    private static void gives(Check c, IntervalAgreement x, int rule, long numerator,
            long denominator) {
        x.setRule(rule);
        c.same("run(1)", x.run(1), 1);
        for (int node = 0; node < x.count(0); node++) {
            c.value(x, node, 1, numerator, denominator);
        }
        x.back(1);
    }

    private static void rest(Check c) {
        IntervalAgreement x = c.nodes(1, 60, "5..8", "0..1", "3..30", "1/2..2");
        c.rest(x, 2, 0, false, 1, 2);
        c.rest(x, 2, 1, false, 3, 1);
        c.rest(x, 2, 0, true, 2, 1);
        c.rest(x, 2, 1, true, 8, 1);
        c.rest(x, 2, 2, true, Check.NO_VALUE, Check.NO_VALUE);
        x.setLink(0, 2, -1);
        c.rest(x, 2, 0, false, 1, 2);
        c.rest(x, 2, 0, true, 2, 1);
        c.rest(x, 2, 1, true, Check.NO_VALUE, Check.NO_VALUE);
    }

    private static void restRefuses(Check c) {
        IntervalAgreement x = c.nodes(1, 60, "5", "0", "3", "1");
        c.rest(x, 4, 0, false, Check.NO_VALUE, Check.NO_VALUE);
        c.rest(x, -1, 0, false, Check.NO_VALUE, Check.NO_VALUE);
        c.rest(x, 0, -1, false, Check.NO_VALUE, Check.NO_VALUE);
        c.rest(x, 0, 2, false, Check.NO_VALUE, Check.NO_VALUE);
        c.rest(x, 0, Integer.MAX_VALUE, false, Check.NO_VALUE, Check.NO_VALUE);
        c.rest(x, 0, Integer.MIN_VALUE, false, Check.NO_VALUE, Check.NO_VALUE);
        x.setLink(1, 0, -1);
        c.rest(x, 0, 0, false, 3, 1);
        x.setLink(2, 0, -1);
        c.rest(x, 0, 0, false, Check.NO_VALUE, Check.NO_VALUE);
        x.setFaulty(1, 4, 0, 1);
        c.rest(x, 1, 0, false, Check.NO_VALUE, Check.NO_VALUE);
        x.reset(10, 0, 1);
        c.rest(x, 9, 9, false, 0, 1);
        c.rest(x, 9, 10, false, Check.NO_VALUE, Check.NO_VALUE);
    }

    private static void trimOfOne(Check c) {
        IntervalAgreement x = c.nodes(1, 720720, "20", "0", "1", "50", "5", "21", "6");
        gives(c, x, MEAN, 53, 5);
        gives(c, x, MIDPOINT, 11, 1);
        gives(c, x, MEDIAN, 6, 1);
        gives(c, x, SELECT, 53, 5);
        IntervalAgreement even = c.nodes(1, 720720, "1", "2", "4", "9", "11", "12");
        gives(c, even, MEAN, 13, 2);
        gives(c, even, MIDPOINT, 13, 2);
        gives(c, even, MEDIAN, 13, 2);
        IntervalAgreement uneven = c.nodes(1, 720720, "1", "2", "3", "9", "30", "32");
        gives(c, uneven, MEAN, 11, 1);
        gives(c, uneven, MIDPOINT, 16, 1);
        gives(c, uneven, MEDIAN, 6, 1);
        gives(c, uneven, SELECT, 11, 1);
        IntervalAgreement none = c.nodes(0, 720720, "1", "2", "6");
        gives(c, none, MEAN, 3, 1);
        gives(c, none, MIDPOINT, 7, 2);
        gives(c, none, MEDIAN, 2, 1);
        gives(c, none, SELECT, 3, 1);
    }

    private static void trimOfTwo(Check c) {
        IntervalAgreement x = c.nodes(2, 720720, "20", "0", "1", "50", "5", "21", "6");
        gives(c, x, MEAN, 31, 3);
        gives(c, x, MIDPOINT, 25, 2);
        gives(c, x, MEDIAN, 6, 1);
        gives(c, x, SELECT, 25, 2);
    }

    private static void trimOfThree(Check c) {
        IntervalAgreement x = c.nodes(3, 720720, "20", "0", "1", "50", "5", "21", "6");
        for (int rule = MEAN; rule <= SELECT; rule++) {
            gives(c, x, rule, 6, 1);
        }
        IntervalAgreement ten = c.nodes(3, 720720, "9", "8", "-7", "61", "5", "4", "3", "2", "-1",
                "0");
        // The rest is 2, 3, 4, 5.
        gives(c, ten, MEAN, 7, 2);
        c.input(ten, 4, "7");
        // The rest is 2, 3, 4, 7.
        gives(c, ten, MEAN, 4, 1);
        gives(c, ten, MIDPOINT, 9, 2);
        gives(c, ten, MEDIAN, 7, 2);
        gives(c, ten, SELECT, 9, 2);
    }

    private static void selectOfMany(Check c) {
        IntervalAgreement x = c.nodes(2, 720720, "0", "0", "1", "100", "4", "200", "10", "300",
                "500", "600");
        // The rest is 1, 4, 10, 100, 200, 300: every other one from the first.
        gives(c, x, SELECT, 211, 3);
        x.setLink(9, 0, -1);
        x.setLink(8, 0, -1);
        // Node 0 has 1, 4, 10, 100 left.
        x.run(1);
        c.value(x, 0, 1, 11, 2);
        c.value(x, 1, 1, 211, 3);
        IntervalAgreement three = c.nodes(3, 720720, "0", "0", "0", "1", "50", "60", "7", "80",
                "90", "99");
        // The rest is 1, 7, 50, 60: the first and the last.
        gives(c, three, SELECT, 61, 2);
        three.setLink(9, 5, -1);
        three.run(1);
        // Node 5 has 1, 7, 50 left: the first alone.
        c.value(three, 5, 1, 1, 1);
    }

    private static void roundedDown(Check c) {
        IntervalAgreement x = c.nodes(0, 1, "-1", "0");
        for (int rule = MEAN; rule <= SELECT; rule++) {
            gives(c, x, rule, -1, 1);
        }
        IntervalAgreement y = c.nodes(0, 1, "1", "2");
        for (int rule = MEAN; rule <= SELECT; rule++) {
            gives(c, y, rule, 1, 1);
        }
        IntervalAgreement thirds = c.nodes(0, 10, "0", "0", "1");
        gives(c, thirds, MEAN, 3, 10);
        gives(c, thirds, MIDPOINT, 1, 2);
        IntervalAgreement below = c.nodes(0, 10, "0", "0", "-1");
        gives(c, below, MEAN, -2, 5);
        gives(c, below, SELECT, -2, 5);
    }

    private static void fewStay(Check c) {
        IntervalAgreement x = c.nodes(1, 60, "1..2", "5..7", "9");
        x.setLink(0, 1, -1);
        x.run(1);
        c.end(x, 1, 1, false, 5, 1);
        c.end(x, 1, 1, true, 7, 1);
        c.end(x, 0, 1, false, 5, 1);
        c.end(x, 0, 1, true, 7, 1);
        IntervalAgreement most = c.nodes(3, 60, "1", "2", "3", "4", "5", "6");
        most.run(2);
        for (int node = 0; node < 6; node++) {
            c.value(most, node, 2, node + 1, 1);
        }
        IntervalAgreement alone = c.nodes(0, 60, "1..2", "5..7");
        alone.setLink(1, 0, -1);
        alone.run(1);
        c.end(alone, 0, 1, false, 1, 1);
        c.end(alone, 0, 1, true, 2, 1);
        c.end(alone, 1, 1, false, 3, 1);
        c.end(alone, 1, 1, true, 9, 2);
    }

    private static void endsApart(Check c) {
        IntervalAgreement x = c.nodes(1, 60, "0..100", "1..2", "2..4", "3..3");
        x.run(1);
        for (int node = 0; node < 4; node++) {
            c.end(x, node, 1, false, 3, 2);
            c.end(x, node, 1, true, 7, 2);
        }
    }
}
