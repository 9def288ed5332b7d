/** Promises 26 to 28: roundsTo, worstStrategy and bestRule. */
public final class ComparisonsTest {
    public static void main(String[] args) {
        Check c = new Check("ComparisonsTest");
        roundsToAnswers(c);
        roundsToNearTheEnd(c);
        worstStrategyIsTheWorst(c);
        worstStrategyByHand(c);
        worstStrategyRefuses(c);
        bestRuleIsTheBest(c);
        bestRuleByHand(c);
        bestRuleRefuses(c);
        c.finish();
    }

    private static void roundsToAnswers(Check c) {
        IntervalAgreement x = RoundsTest.halving(c);
        c.same("already", x.roundsTo(9, 2, 0), 0);
        c.same("none not enough", x.roundsTo(4, 1, 0), Check.NONE);
        c.same("just enough", x.roundsTo(9, 8, 2), 2);
        c.same("one too few", x.roundsTo(9, 8, 1), Check.NONE);
        c.same("more than enough", x.roundsTo(9, 8, 60), 2);
        c.same("nothing changed", x.count(3), 0);
        c.width(x, 1, Check.NO_VALUE, Check.NO_VALUE);
        x.run(1);
        c.same("one left", x.roundsTo(9, 8, 60), 1);
        c.same("nothing changed then", x.count(3), 1);
        c.width(x, 1, 9, 4);
        c.same("runTo as told", x.runTo(9, 8, 60), 1);
    }

    private static void roundsToNearTheEnd(Check c) {
        IntervalAgreement x = Check.fresh(2, 0, 1);
        c.input(x, 1, "8");
        x.setLink(0, 1, -1);
        x.setLink(1, 0, -1);
        x.run(59);
        c.same("never", x.roundsTo(7, 1, 60), Check.NONE);
        x.setLink(0, 1, 0);
        x.setLink(1, 0, 0);
        c.same("the last round", x.roundsTo(0, 1, 60), 1);
        c.same("r stays", x.count(3), 59);
        x.setLink(0, 1, -1);
        x.run(1);
        x.setLink(0, 1, 0);
        c.same("one round too many", x.roundsTo(0, 1, 60), Check.NONE);
        c.same("already", x.roundsTo(4, 1, 60), 0);
        c.same("r stays at the end", x.count(3), 60);
    }

    /** A setting with a faulty node 4 of the given strategy. */
    private static IntervalAgreement attacked(Check c, int strategy, int kind) {
        String[][] inputs = {{"0", "1/2..3", "-2..-3/2", "5"}, {"0..9", "4", "4..5", "4"},
            {"1", "1", "1", "1"}, {"-8..-3", "8", "0", "2..7"}};
        IntervalAgreement x = Check.fresh(5, kind % 2, 60);
        for (int node = 0; node < 4; node++) {
            c.input(x, node, inputs[kind][node]);
        }
        c.input(x, 4, "-3..20");
        c.lie(x, 4, 0, "-9");
        c.lie(x, 4, 1, "8..9");
        c.lie(x, 4, 3, "2..90");
        x.setFaulty(4, strategy, kind - 2, 2);
        x.setLink(1, 2, kind - 1);
        x.setRule(kind);
        return x;
    }

    private static void worstStrategyIsTheWorst(Check c) {
        for (int kind = 0; kind < 4; kind++) {
            for (int rounds = 1; rounds <= 10; rounds += 3) {
                int worst = 0;
                double greatest = -1;
                for (int strategy = 1; strategy <= 5; strategy++) {
                    IntervalAgreement y = attacked(c, strategy, kind);
                    y.run(rounds);
                    double width = (double) y.width(rounds, false) / y.width(rounds, true);
                    if (width > greatest) {
                        greatest = width;
                        worst = strategy;
                    }
                }
                IntervalAgreement x = attacked(c, 3, kind);
                c.same("worstStrategy of " + kind, x.worstStrategy(4, rounds), worst);
                c.same("its strategy stays", x.strategy(4), 3);
                c.same("r stays", x.count(3), 0);
                c.width(x, 1, Check.NO_VALUE, Check.NO_VALUE);
            }
        }
    }

    private static void worstStrategyByHand(Check c) {
        IntervalAgreement x = Check.fresh(3, 0, 60);
        c.input(x, 1, "6");
        x.setFaulty(2, 4, 0, 1);
        // Silent and mirror: 2 and 4; split: 2 and 4; table and drift: 2 and 2.
        c.same("the lowest of several", x.worstStrategy(2, 1), 2);
        x.setFaulty(2, 4, 1, 1);
        // Split: 5/3 and 13/3.
        c.same("split", x.worstStrategy(2, 1), 2);
        x.setFaulty(2, 4, -1, 1);
        // Split: 7/3 and 11/3; mirror: 5/3 and 11/3; silent: 2 and 4.
        c.same("mirror", x.worstStrategy(2, 1), 3);
        c.lie(x, 2, 1, "9");
        c.same("table", x.worstStrategy(2, 1), 1);
        x.reset(3, 0, 60);
        x.setFaulty(2, 4, 0, 1);
        c.input(x, 2, "90");
        x.setLink(2, 0, -1);
        // All are 0, but for what drifts from 90.
        c.same("drift", x.worstStrategy(2, 1), 5);
        x.reset(3, 0, 60);
        x.setFaulty(2, 5, 0, 1);
        c.same("all the same", x.worstStrategy(2, 10), 1);
        x.setFaulty(0, 5, 0, 1);
        x.setFaulty(1, 5, 0, 1);
        c.same("without a correct node", x.worstStrategy(1, 10), 1);
    }

    private static void worstStrategyRefuses(Check c) {
        IntervalAgreement x = Check.fresh(3, 0, 60);
        x.setFaulty(2, 5, 0, 1);
        c.same("node 3", x.worstStrategy(3, 0), Check.UNKNOWN);
        c.same("node -1", x.worstStrategy(-1, 1), Check.UNKNOWN);
        c.same("0 rounds", x.worstStrategy(2, 0), Check.BAD_VALUE);
        c.same("11 rounds", x.worstStrategy(2, 11), Check.BAD_VALUE);
        c.same("0 rounds of a correct node", x.worstStrategy(1, 0), Check.BAD_VALUE);
        c.same("a correct node", x.worstStrategy(1, 1), Check.NOT_NOW);
        x.run(51);
        c.same("too many", x.worstStrategy(2, 10), Check.FULL);
        c.same("a correct node, too many", x.worstStrategy(1, 10), Check.NOT_NOW);
        c.same("just fitting", x.worstStrategy(2, 9), 1);
        c.same("11 rounds, too many", x.worstStrategy(2, 11), Check.BAD_VALUE);
        c.same("MAX rounds", x.worstStrategy(2, Integer.MAX_VALUE), Check.BAD_VALUE);
    }

    private static void bestRuleIsTheBest(Check c) {
        for (int kind = 0; kind < 4; kind++) {
            for (int start = 0; start <= 4; start += 2) {
                IntervalAgreement x = attacked(c, 1 + kind, kind);
                if (start > 0) {
                    x.run(start);
                }
                int best = -1;
                double least = Double.MAX_VALUE;
                for (int rule = 0; rule <= 3; rule++) {
                    x.setRule(rule);
                    x.run(3);
                    double width = (double) x.width(start + 3, false) / x.width(start + 3, true);
                    if (width < least) {
                        least = width;
                        best = rule;
                    }
                    x.back(3);
                }
                x.setRule(kind);
                c.same("bestRule of " + kind, x.bestRule(3), best);
                c.same("its rule stays", x.count(5), kind);
                c.same("r stays", x.count(3), start);
            }
        }
    }

    private static void bestRuleByHand(Check c) {
        IntervalAgreement x = Check.fresh(5, 0, 60);
        x.setRule(3);
        c.same("all the same", x.bestRule(10), 0);
        c.input(x, 1, "4");
        x.setFaulty(4, 1, 0, 1);
        c.lie(x, 4, 0, "20");
        c.lie(x, 4, 2, "30");
        // Median: 0 for all; midpoint and mean are drawn to the lies.
        c.same("median", x.bestRule(1), 2);
        x.reset(4, 0, 60);
        c.input(x, 0, "0");
        c.input(x, 1, "12");
        c.input(x, 2, "12");
        x.setFaulty(3, 1, 0, 1);
        c.lie(x, 3, 0, "1");
        c.lie(x, 3, 1, "11");
        c.lie(x, 3, 2, "10");
        // Midpoint: 6 for all; mean: 25/4 and more; median: 13/2, 23/2, 11.
        c.same("midpoint", x.bestRule(1), 1);
        x.reset(8, 2, 60);
        String[] inputs = {"12", "6", "12", "6", "0", "0", "0"};
        for (int node = 0; node < inputs.length; node++) {
            c.input(x, node, inputs[node]);
        }
        x.setFaulty(7, 1, 0, 1);
        c.lie(x, 7, 3, "12");
        x.setLink(1, 2, -1);
        // Left are 0, 0, 6 for node 2, 0, 6, 6, 12 for node 3 and 0, 0, 6, 6 for the others.
        // Mean: 2, 6, 3; midpoint: 3, 6, 3; median: 0, 6, 3; select: 3 for all.
        c.same("select", x.bestRule(1), 3);
    }

    private static void bestRuleRefuses(Check c) {
        IntervalAgreement x = Check.fresh(3, 0, 60);
        c.same("0 rounds", x.bestRule(0), Check.BAD_VALUE);
        c.same("11 rounds", x.bestRule(11), Check.BAD_VALUE);
        c.same("MIN rounds", x.bestRule(Integer.MIN_VALUE), Check.BAD_VALUE);
        x.run(55);
        c.same("too many", x.bestRule(6), Check.FULL);
        c.same("11 rounds, too many", x.bestRule(11), Check.BAD_VALUE);
        c.same("just fitting", x.bestRule(5), 0);
        c.same("r stays", x.count(3), 55);
    }
}
