/** Promises 21 to 25: width, rate, guarantee, hull and outside. */
public final class ConvergenceTest {
    public static void main(String[] args) {
        Check c = new Check("ConvergenceTest");
        widths(c);
        rates(c);
        rateOfOneUnitAndOfNone(c);
        rateAboveOne(c);
        guarantees(c);
        guaranteeOfSelect(c);
        noGuarantee(c);
        guaranteeHolds(c);
        hulls(c);
        outside(c);
        c.finish();
    }

    private static void widths(Check c) {
        IntervalAgreement x = Check.fresh(4, 0, 60);
        c.width(x, 0, 0, 1);
        c.input(x, 0, "-3/2..10");
        c.input(x, 1, "5/4..11");
        c.input(x, 2, "0..12");
        c.input(x, 3, "-50..50");
        x.setFaulty(3, 4, 0, 1);
        c.width(x, 0, 11, 4);
        c.input(x, 2, "1..14");
        c.width(x, 0, 4, 1);
        c.width(x, 1, Check.NO_VALUE, Check.NO_VALUE);
        c.width(x, -1, Check.NO_VALUE, Check.NO_VALUE);
        x.run(2);
        c.width(x, 0, 4, 1);
        c.width(x, 1, 1, 1);
        c.width(x, 2, 1, 4);
        c.width(x, 3, Check.NO_VALUE, Check.NO_VALUE);
        c.width(x, Integer.MAX_VALUE, Check.NO_VALUE, Check.NO_VALUE);
        x.reset(2, 0, 60);
        c.input(x, 1, "5");
        x.setFaulty(0, 1, 0, 1);
        c.width(x, 0, 0, 1);
        x.setFaulty(1, 1, 0, 1);
        c.width(x, 0, 0, 1);
    }

    private static void rates(Check c) {
        IntervalAgreement x = Check.fresh(3, 0, 1);
        c.input(x, 1, "7");
        c.rate(x, 1, Check.NO_VALUE, Check.NO_VALUE);
        x.setFaulty(2, 1, 0, 1);
        c.lie(x, 2, 1, "9");
        x.run(1);
        // (0 + 7 + 0) / 3 and (0 + 7 + 9) / 3, rounded down.
        c.value(x, 0, 1, 2, 1);
        c.value(x, 1, 1, 5, 1);
        c.rate(x, 1, 3, 7);
        c.rate(x, 0, Check.NO_VALUE, Check.NO_VALUE);
        c.rate(x, 2, Check.NO_VALUE, Check.NO_VALUE);
        c.rate(x, -1, Check.NO_VALUE, Check.NO_VALUE);
        c.rate(x, Integer.MIN_VALUE, Check.NO_VALUE, Check.NO_VALUE);
        c.lie(x, 2, 1, "0");
        x.run(2);
        c.rate(x, 1, 3, 7);
        c.rate(x, 2, 0, 1);
        c.rate(x, 3, Check.NO_VALUE, Check.NO_VALUE);
    }

    private static void rateOfOneUnitAndOfNone(Check c) {
        IntervalAgreement x = Check.fresh(3, 0, 60);
        c.input(x, 1, "1/60");
        x.setFaulty(2, 1, 0, 1);
        c.lie(x, 2, 1, "1/20");
        x.run(1);
        // 1 / 3 and 4 / 3 units, rounded down.
        c.rate(x, 1, 1, 1);
        c.lie(x, 2, 1, "0");
        x.run(1);
        c.rate(x, 2, 0, 1);
        c.lie(x, 2, 1, "5");
        x.run(1);
        c.width(x, 3, 5, 3);
        c.rate(x, 3, Check.NO_VALUE, Check.NO_VALUE);
    }

    private static void rateAboveOne(Check c) {
        IntervalAgreement x = Check.fresh(3, 0, 60);
        c.input(x, 1, "6");
        x.setFaulty(2, 1, 0, 1);
        c.lie(x, 2, 0, "-30");
        c.lie(x, 2, 1, "30");
        x.run(1);
        // -8 and 12.
        c.rate(x, 1, 10, 3);
    }

    private static void guarantees(Check c) {
        IntervalAgreement x = new IntervalAgreement();
        c.guarantee("at first", x, 1, 2);
        x.reset(7, 1, 1);
        c.guarantee("mean of 7", x, 1, 5);
        x.setRule(1);
        c.guarantee("midpoint of 7", x, 1, 2);
        x.setRule(3);
        c.guarantee("select of 7", x, 1, 5);
        x.setRule(2);
        c.guarantee("median", x, Check.NO_VALUE, Check.NO_VALUE);
        x.reset(10, 2, 1);
        c.guarantee("mean of 10", x, 1, 3);
        x.reset(7, 2, 1);
        c.guarantee("mean of 7 less 4", x, 2, 3);
        x.reset(10, 3, 1);
        c.guarantee("mean of 10 less 6", x, 3, 4);
        for (int rule = 0; rule <= 3; rule++) {
            x.reset(2, 0, 1);
            x.setRule(rule);
            long none = Check.NO_VALUE;
            c.guarantee("without trim", x, rule == 2 ? none : 0, rule == 2 ? none : 1);
        }
    }

    private static void guaranteeOfSelect(Check c) {
        // nodes, trim, (n - 2 * t - 1) / t + 1
        int[][] cases = {{4, 1, 2}, {10, 1, 8}, {7, 2, 2}, {8, 2, 2}, {9, 2, 3}, {10, 2, 3},
            {10, 3, 2}};
        for (int[] one : cases) {
            IntervalAgreement x = Check.fresh(one[0], one[1], 60);
            x.setRule(3);
            c.guarantee("select of " + one[0] + " with " + one[1], x, 1, one[2]);
        }
    }

    private static void noGuarantee(Check c) {
        long none = Check.NO_VALUE;
        IntervalAgreement x = Check.fresh(7, 2, 60);
        x.setFaulty(0, 1, 0, 1);
        x.setFaulty(6, 1, 0, 1);
        c.guarantee("as many faulty as the trim", x, 2, 3);
        x.setFaulty(3, 1, 0, 1);
        c.guarantee("more faulty than the trim", x, none, none);
        x.setCorrect(3);
        x.setLink(6, 5, 1);
        c.guarantee("a delay", x, none, none);
        x.setLink(6, 5, -1);
        c.guarantee("no link", x, none, none);
        x.setLink(6, 5, 0);
        c.guarantee("a link again", x, 2, 3);
        x.reset(6, 2, 60);
        c.guarantee("three times the trim", x, none, none);
        x.reset(3, 1, 60);
        x.setRule(1);
        c.guarantee("three times the trim, midpoint", x, none, none);
        x.reset(2, 3, 60);
        x.setRule(3);
        c.guarantee("less than the trim", x, none, none);
        x.reset(5, 0, 60);
        x.setFaulty(3, 1, 0, 1);
        c.guarantee("a faulty one without trim", x, none, none);
    }

    private static void guaranteeHolds(Check c) {
        for (int rule = 0; rule <= 3; rule++) {
            IntervalAgreement x = Check.fresh(7, 2, 840);
            x.setRule(rule);
            for (int node = 0; node < 5; node++) {
                c.input(x, node, (node * node) + ".." + (30 + node * 7 % 5));
            }
            x.setFaulty(5, 2, 3, 2);
            x.setFaulty(6, 2, 7, 1);
            x.run(8);
            for (int round = 1; round <= 8 && rule != 2; round++) {
                long before = units(x, round - 1, 840);
                long after = units(x, round, 840);
                c.holds("within the guarantee", (after - 1) * x.guarantee(true)
                        <= before * x.guarantee(false));
            }
        }
    }

    private static long units(IntervalAgreement x, int round, int grid) {
        return x.width(round, false) * grid / x.width(round, true);
    }

    private static void hull(Check c, IntervalAgreement x, long low, long lowDenominator, long high,
            long highDenominator) {
        c.hull(x, false, low, lowDenominator);
        c.hull(x, true, high, highDenominator);
    }

    private static void hulls(Check c) {
        IntervalAgreement x = Check.fresh(3, 0, 60);
        hull(c, x, 0, 1, 0, 1);
        c.input(x, 0, "1/2..9");
        c.input(x, 1, "3/4..19/2");
        c.input(x, 2, "2..3");
        hull(c, x, 1, 2, 19, 2);
        x.setFaulty(1, 4, 0, 1);
        hull(c, x, 1, 2, 9, 1);
        x.run(3);
        hull(c, x, 1, 2, 9, 1);
        x.back(3);
        x.setFaulty(0, 4, 0, 1);
        hull(c, x, 2, 1, 3, 1);
        x.setFaulty(2, 4, 0, 1);
        hull(c, x, Check.NO_VALUE, Check.NO_VALUE, Check.NO_VALUE, Check.NO_VALUE);
    }

    private static void outside(Check c) {
        IntervalAgreement x = Check.fresh(4, 0, 60);
        for (int node = 0; node < 4; node++) {
            c.input(x, node, "0..1");
        }
        x.setFaulty(2, 1, 0, 1);
        c.lie(x, 2, 0, "1..2");
        c.lie(x, 2, 1, "-1/15..1");
        c.lie(x, 2, 3, "0..1");
        c.same("at first", x.outside(), 0);
        x.run(1);
        c.same("above and below", x.outside(), 3);
        c.end(x, 0, 1, true, 5, 4);
        c.end(x, 1, 1, false, -1, 60);
        c.end(x, 3, 1, true, 1, 1);
        x.back(1);
        c.same("taken back", x.outside(), 0);
        c.lie(x, 2, 0, "0..1");
        c.lie(x, 2, 3, "-5..-5");
        x.run(1);
        c.same("nodes 1 and 3", x.outside(), 10);
        x.reset(2, 0, 60);
        x.setFaulty(0, 2, 1, 1);
        c.same("node 1 alone", x.outside(), 0);
        x.run(1);
        c.same("node 1 outside", x.outside(), 2);
        x.reset(3, 0, 60);
        c.input(x, 0, "-9..1");
        c.input(x, 1, "2..30");
        c.input(x, 2, "3..4");
        c.same("different inputs", x.outside(), 0);
        x.run(1);
        c.same("different inputs, later", x.outside(), 0);
        x.reset(2, 0, 60);
        x.setFaulty(0, 2, 1, 1);
        x.run(1);
        c.same("node 1 outside", x.outside(), 2);
        x.reset(2, 0, 60);
        x.setFaulty(0, 2, 1, 1);
        x.setFaulty(1, 2, 1, 1);
        x.run(1);
        c.same("without a correct node", x.outside(), 0);
    }
}
