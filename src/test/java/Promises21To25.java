/** Boundaries of the promises 21 to 25: width, rate, guarantee, hull and outside. */
final class Promises21To25 {
    private static final long NO_VALUE = Check.NO_VALUE;

    private Promises21To25() {
    }

    static void test(Sentences s) {
        width(s);
        rate(s);
        rateAnswers(s);
        guarantee(s);
        hull(s);
        outside(s);
    }

    private static void width(Sentences s) {
        s.section("Promise 21: width");
        s.noBoundary("---- convergence", Sentences.DENOMINATOR);
        s.test("`round`: 0 to r: after so many rounds", c -> {
            long[] widths = {16, 8, 4, 2, 1};
            IntervalAgreement x = Promises13To15.halvedAfter(c, 0);
            for (int r = 0; r <= 4; r++) {
                for (int round = 0; round <= 5; round++) {
                    boolean there = round <= r;
                    c.width(x, round, there ? widths[round] : NO_VALUE, there ? 1 : NO_VALUE);
                }
                x.run(1);
            }
            IntervalAgreement last = Promises13To15.halvedAfter(c, 60);
            c.range("width after", 0, 60, NO_VALUE, round -> last.width(round, false), round -> 16);
        });
        s.test("Returns that of the width; NO_VALUE.", c -> {
            IntervalAgreement x = c.nodes(0, 60, "0..5/2", "1/60..5/2");
            c.width(x, 0, 1, 60);
            c.width(x, 1, NO_VALUE, NO_VALUE);
            c.width(x, -1, NO_VALUE, NO_VALUE);
            x.setFaulty(0, 4, 0, 1);
            c.width(x, 0, 0, 1);
            x.setFaulty(1, 4, 0, 1);
            c.width(x, 0, 0, 1);
            c.width(x, 1, NO_VALUE, NO_VALUE);
        });
    }

    /** Widths of 7, 3, 1, 0 and 0 units of 1. */
    private static IntervalAgreement coarse(Check c, int rounds) {
        IntervalAgreement x = c.nodes(0, 1, "0", "7");
        x.setLink(1, 0, -1);
        x.run(rounds);
        return x;
    }

    private static void rate(Sentences s) {
        s.section("Promise 22: rate");
        s.noBoundary(Sentences.DENOMINATOR);
        s.test("Returns by which factor the width became less in a round: the width after it divided by"
                + " the width before it.", c -> {
            IntervalAgreement x = coarse(c, 3);
            c.rate(x, 1, 3, 7);
            c.rate(x, 2, 1, 3);
            c.rate(x, 3, 0, 1);
            IntervalAgreement stays = Promises13To15.halvedAfter(c, 60);
            c.rate(stays, 1, 1, 1);
            c.rate(stays, 60, 1, 1);
            IntervalAgreement more = c.nodes(0, 60, "0", "2", "0");
            more.setFaulty(2, 2, 9, 1);
            more.run(1);
            // Node 0 gets -9 and node 1 gets 11 from the splitting one: -7/3 and 13/3.
            c.rate(more, 1, 10, 3);
        });
        s.test("`round`: number of the round, counted from 1, 1 to r", c -> {
            IntervalAgreement x = Promises13To15.halvedAfter(c, 0);
            c.rate(x, 0, NO_VALUE, NO_VALUE);
            c.rate(x, 1, NO_VALUE, NO_VALUE);
            x.run(1);
            c.rate(x, 1, 1, 2);
            c.rate(x, 2, NO_VALUE, NO_VALUE);
            IntervalAgreement last = Promises13To15.halvedAfter(c, 60);
            c.range("rate of", 1, 60, NO_VALUE, round -> last.rate(round, true), round -> 1);
        });
    }

    private static void rateAnswers(Sentences s) {
        s.test("Returns that of the factor, which need not be a multiple of 1 / g; NO_VALUE, also if"
                + " the width before is 0.", c -> {
            IntervalAgreement x = coarse(c, 5);
            c.rate(x, 1, 3, 7);
            c.rate(x, 2, 1, 3);
            c.rate(x, 3, 0, 1);
            c.rate(x, 4, NO_VALUE, NO_VALUE);
            c.rate(x, 5, NO_VALUE, NO_VALUE);
            c.rate(x, 6, NO_VALUE, NO_VALUE);
            c.rate(coarse(c, 1), 2, NO_VALUE, NO_VALUE);
            IntervalAgreement grows = Check.fresh(3, 0, 60);
            grows.setFaulty(2, 2, 3, 1);
            grows.run(2);
            // From 0 the width grows to 2, and then node 0 gets -4 and node 1 gets 4.
            c.width(grows, 1, 2, 1);
            c.rate(grows, 1, NO_VALUE, NO_VALUE);
            c.width(grows, 2, 8, 3);
            c.rate(grows, 2, 4, 3);
        });
    }

    private static void guarantee(Sentences s) {
        s.section("Promise 23: guarantee");
        s.noBoundary(Sentences.DENOMINATOR);
        s.test("Returns that of the guarantee, which need not be a multiple of 1 / g; NO_VALUE if there"
                + " is none.", c -> {
            IntervalAgreement x = Check.fresh(7, 1, 1);
            c.guarantee("1 / 5 of grid 1", x, 1, 5);
            x.setRule(1);
            c.guarantee("1 / 2 of grid 1", x, 1, 2);
            x.setRule(2);
            c.guarantee("median", x, NO_VALUE, NO_VALUE);
            x.reset(7, 0, 1);
            c.guarantee("0", x, 0, 1);
            x.reset(10, 2, 1);
            c.guarantee("2 / 6 in lowest terms", x, 1, 3);
            x.reset(3, 1, 1);
            c.guarantee("three nodes with a trim of 1", x, NO_VALUE, NO_VALUE);
        });
    }

    private static void hull(Sentences s) {
        s.section("Promise 24: hull");
        s.noBoundary(Sentences.HIGH, Sentences.DENOMINATOR);
        s.test("Returns that of the hull; NO_VALUE if there is no correct node.", c -> {
            IntervalAgreement x = c.nodes(0, 60, "-1000..-999", "1/2..3/4");
            c.hull(x, false, -1000, 1);
            c.hull(x, true, 3, 4);
            x.setFaulty(0, 4, 0, 1);
            c.hull(x, false, 1, 2);
            c.hull(x, true, 3, 4);
            x.setFaulty(1, 4, 0, 1);
            c.hull(x, false, NO_VALUE, NO_VALUE);
            c.hull(x, true, NO_VALUE, NO_VALUE);
            x.run(60);
            c.hull(x, true, NO_VALUE, NO_VALUE);
            IntervalAgreement negative = c.nodes(0, 60, "-9..-8", "-7..-6");
            c.hull(negative, false, -9, 1);
            c.hull(negative, true, -6, 1);
            IntervalAgreement positive = c.nodes(0, 60, "6..7", "8..9");
            c.hull(positive, false, 6, 1);
            c.hull(positive, true, 9, 1);
        });
    }

    private static void outside(Sentences s) {
        s.section("Promise 25: outside");
        s.test("Tells whether the values of all correct nodes are within the hull.", c -> {
            IntervalAgreement edges = c.nodes(0, 60, "-5..1", "-4..7");
            c.same("the inputs", edges.outside(), 0);
            edges.setLink(0, 1, -1);
            edges.setLink(1, 0, -1);
            edges.run(60);
            c.same("the edges of the hull", edges.outside(), 0);
            // With ten numbers and units of 1 a lie of 10 is one unit more, one of -1 one unit less.
            String[] lies = {"9", "10", "-1", "0..9", "0..10", "-1..9"};
            int[] due = {0, 1, 1, 0, 1, 1};
            for (int i = 0; i < lies.length; i++) {
                IntervalAgreement x = Check.fresh(10, 0, 1);
                x.setFaulty(9, 1, 0, 1);
                c.lie(x, 9, 0, lies[i]);
                x.run(1);
                c.same("with a lie of " + lies[i], x.outside(), due[i]);
                x.back(1);
                c.same("taken back", x.outside(), 0);
            }
        });
        s.test("Returns the nodes whose values are not, as a bit set (bit k for node k).", c -> {
            IntervalAgreement x = Check.fresh(10, 0, 1);
            x.setFaulty(5, 1, 0, 1);
            for (int receiver : new int[] {0, 2, 9}) {
                c.lie(x, 5, receiver, "1000");
            }
            c.input(x, 5, "1000");
            x.run(1);
            c.same("nodes 0, 2 and 9", x.outside(), 1 + 4 + 512);
            x.back(1);
            for (int receiver = 0; receiver < 10; receiver++) {
                if (receiver != 5) {
                    c.lie(x, 5, receiver, "-1000");
                }
            }
            x.run(1);
            c.same("all but the faulty one", x.outside(), 1023 - 32);
            IntervalAgreement faulty = c.nodes(0, 60, "1", "2");
            faulty.setFaulty(0, 2, 1, 1);
            faulty.setFaulty(1, 2, 1, 1);
            faulty.run(60);
            c.same("without a correct node", faulty.outside(), 0);
        });
    }
}
