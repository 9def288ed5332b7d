/** Promises 13 to 15: run, runTo and back. */
public final class RoundsTest {
    public static void main(String[] args) {
        Check c = new Check("RoundsTest");
        runAnswers(c);
        runIsAsManyTimesOne(c);
        runWithoutCorrectNodes(c);
        runToReaches(c);
        runToRefuses(c);
        runToNearTheEnd(c);
        backTakesBack(c);
        backLeavesSettings(c);
        c.finish();
    }

    /** Widths 9/2, 9/4, 9/8, 9/16 and then less by what is rounded. */
    static IntervalAgreement halving(Check c) {
        IntervalAgreement x = new IntervalAgreement();
        c.input(x, 0, "0");
        c.input(x, 1, "1/2..3");
        c.input(x, 2, "-2..-3/2");
        c.same("setFaulty", x.setFaulty(3, 2, 1, 2), 0);
        return x;
    }

    private static void runAnswers(Check c) {
        IntervalAgreement x = new IntervalAgreement();
        c.same("run(0)", x.run(0), Check.BAD_VALUE);
        c.same("run(-1)", x.run(-1), Check.BAD_VALUE);
        c.same("run(61)", x.run(61), Check.BAD_VALUE);
        c.same("run(MAX)", x.run(Integer.MAX_VALUE), Check.BAD_VALUE);
        c.same("run(1)", x.run(1), 1);
        c.same("run(60)", x.run(60), Check.FULL);
        c.same("run(61) then", x.run(61), Check.BAD_VALUE);
        c.same("r stays", x.count(3), 1);
        c.same("run(59)", x.run(59), 60);
        c.same("run(1) at the end", x.run(1), Check.FULL);
        c.same("back(60)", x.back(60), 0);
        c.same("run(60) at the beginning", x.run(60), 60);
    }

    private static void runIsAsManyTimesOne(Check c) {
        IntervalAgreement x = halving(c);
        IntervalAgreement y = halving(c);
        x.run(7);
        for (int round = 1; round <= 7; round++) {
            c.same("run(1)", y.run(1), round);
        }
        for (int round = 0; round <= 7; round++) {
            for (int node = 0; node < 3; node++) {
                sameEnd(c, x, y, node, round, true);
                sameEnd(c, x, y, node, round, false);
            }
        }
        c.end(x, 0, 1, false, -1, 1);
        c.end(x, 0, 1, true, -3, 4);
        c.end(x, 1, 1, false, 1, 4);
        c.end(x, 1, 1, true, 3, 2);
    }

    private static void sameEnd(Check c, IntervalAgreement x, IntervalAgreement y, int node,
            int round, boolean high) {
        c.end(x, node, round, high, y.value(node, round, high, false),
                y.value(node, round, high, true));
    }

    private static void runWithoutCorrectNodes(Check c) {
        IntervalAgreement x = Check.fresh(2, 0, 1);
        x.setFaulty(0, 2, 1, 1);
        x.setFaulty(1, 3, 1, 1);
        c.same("run(5)", x.run(5), 5);
        c.same("runTo(0, 1, 3)", x.runTo(0, 1, 3), 0);
        c.same("back(2)", x.back(2), 3);
    }

    private static void runToReaches(Check c) {
        IntervalAgreement x = halving(c);
        c.same("already", x.runTo(9, 2, 0), 0);
        c.same("already, with more", x.runTo(1000, 1, 60), 0);
        c.same("r", x.count(3), 0);
        c.same("one not enough", x.runTo(9, 8, 1), Check.NONE);
        c.same("none not enough", x.runTo(8, 2, 0), Check.NONE);
        c.same("r stays", x.count(3), 0);
        c.same("just enough", x.runTo(9, 8, 2), 2);
        c.same("r then", x.count(3), 2);
        c.width(x, 2, 9, 8);
        c.same("a little less", x.runTo(899, 800, 60), 1);
        c.same("r then", x.count(3), 3);
        c.width(x, 3, 9, 16);
        c.same("five not enough", x.runTo(0, 1, 5), Check.NONE);
        c.same("r stays then", x.count(3), 3);
        c.width(x, 3, 9, 16);
    }

    private static void runToRefuses(Check c) {
        IntervalAgreement x = halving(c);
        int[][] wrong = {{-1, 1, 1}, {1001, 1, 1}, {1, 0, 1}, {1, -1, 1}, {1, 1001, 1}, {1, 1, -1},
            {1, 1, 61}, {Integer.MAX_VALUE, 1, 1}, {1, Integer.MIN_VALUE, 1}};
        for (int[] w : wrong) {
            c.same("runTo", x.runTo(w[0], w[1], w[2]), Check.BAD_VALUE);
            c.same("roundsTo", x.roundsTo(w[0], w[1], w[2]), Check.BAD_VALUE);
        }
        c.same("r stays", x.count(3), 0);
        c.same("runTo(1000, 1000, 60)", x.runTo(1000, 1000, 60), 3);
    }

    private static void runToNearTheEnd(Check c) {
        IntervalAgreement x = Check.fresh(2, 0, 1);
        c.input(x, 1, "8");
        x.setLink(0, 1, -1);
        x.setLink(1, 0, -1);
        c.same("run(59)", x.run(59), 59);
        c.same("not without links", x.runTo(7, 1, 60), Check.NONE);
        x.setLink(0, 1, 0);
        x.setLink(1, 0, 0);
        c.same("the last round", x.runTo(0, 1, 60), 1);
        c.same("r", x.count(3), 60);
        c.same("already at the end", x.runTo(0, 1, 60), 0);
        x.back(1);
        x.setLink(0, 1, -1);
        x.setLink(1, 0, -1);
        x.run(1);
        x.setLink(0, 1, 0);
        x.setLink(1, 0, 0);
        c.same("one round too many", x.runTo(0, 1, 60), Check.NONE);
        c.same("r stays", x.count(3), 60);
        c.value(x, 1, 60, 8, 1);
    }

    private static void backTakesBack(Check c) {
        IntervalAgreement x = halving(c);
        x.run(5);
        c.same("back(-1)", x.back(-1), Check.BAD_VALUE);
        c.same("back(6)", x.back(6), Check.BAD_VALUE);
        c.same("r stays", x.count(3), 5);
        c.same("back(0)", x.back(0), 5);
        c.same("back(4)", x.back(4), 1);
        c.same("no value after 2 rounds", x.value(0, 2, false, false), Check.NO_VALUE);
        c.end(x, 1, 1, true, 3, 2);
        c.same("back(1)", x.back(1), 0);
        c.same("back(1) again", x.back(1), Check.BAD_VALUE);
        c.end(x, 1, 0, true, 3, 1);
        c.input(x, 1, "0");
        c.same("run(1)", x.run(1), 1);
        c.end(x, 1, 1, false, 0, 1);
    }

    private static void backLeavesSettings(Check c) {
        IntervalAgreement x = Check.fresh(3, 0, 720720);
        c.input(x, 0, "6");
        x.setFaulty(2, 1, 0, 1);
        x.run(2);
        x.setRule(1);
        x.setLink(0, 1, -1);
        c.lie(x, 2, 0, "12");
        c.same("back(2)", x.back(2), 0);
        c.same("rule", x.count(5), 1);
        c.same("links", x.count(6), 5);
        c.received(x, 0, 2, false, 12, 1);
        c.same("run(1)", x.run(1), 1);
        c.value(x, 0, 1, 6, 1);
        c.value(x, 1, 1, 0, 1);
    }
}
