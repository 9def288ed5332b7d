/** Boundaries of the promises 26 to 28: roundsTo, worstStrategy and bestRule. */
final class Promises26To28 {
    private static final int UNKNOWN = Check.UNKNOWN;
    private static final int BAD_VALUE = Check.BAD_VALUE;
    private static final int NOT_NOW = Check.NOT_NOW;
    private static final int FULL = Check.FULL;
    private static final int NONE = Check.NONE;
    private static final long NO_VALUE = Check.NO_VALUE;

    private Promises26To28() {
    }

    static void test(Sentences s) {
        nothingChanges(s);
        roundsToArguments(s);
        roundsToAnswers(s);
        worstStrategy(s);
        worstStrategyArguments(s);
        worstStrategyAnswers(s);
        bestRule(s);
        bestRuleAnswers(s);
        s.section("Not promised");
        s.noBoundary("How the state is held inside the object is free, as are the speed of each call,"
                + " the text of toString and the behaviour of equals and hashCode. Use of one object"
                + " from several threads at once is not promised to be safe. Nothing is promised"
                + " beyond the answers and state changes described above, and nothing about an object"
                + " after its 512th call.");
    }

    private static void nothingChanges(Sentences s) {
        s.section("Promise 26: roundsTo");
        s.test("---- comparisons (nothing changes by them)", c -> {
            for (int r : new int[] {0, 5, 50, 59}) {
                int rounds = Math.min(10, 60 - r);
                c.holds("a goal for roundsTo", r > 5 || Twins.setting(c, r).roundsTo(8, 1, 60) > 0);
                Twins.alike(c, "roundsTo", r, x -> x.roundsTo(8, 1, 60));
                Twins.alike(c, "worstStrategy", r,
                        x -> c.holds("a strategy", x.worstStrategy(3, rounds) > 0));
                Twins.alike(c, "bestRule", r,
                        x -> c.holds("a rule", x.bestRule(rounds) >= 0));
            }
        });
    }

    private static void roundsToArguments(Sentences s) {
        s.test("`numerator`: of a width, 0 to 1000", c -> {
            c.range("roundsTo, numerator", 0, 1000, BAD_VALUE,
                    numerator -> new IntervalAgreement().roundsTo(numerator, 1, 60), numerator -> 0);
            IntervalAgreement x = c.nodes(0, 60, "-1000", "0");
            c.same("1000", x.roundsTo(1000, 1, 0), 0);
            c.same("999", x.roundsTo(999, 1, 0), NONE);
        });
        s.test("`denominator`: 1 to 1000", c -> {
            c.range("roundsTo, denominator", 1, 1000, BAD_VALUE,
                    denominator -> new IntervalAgreement().roundsTo(0, denominator, 60),
                    denominator -> 0);
            IntervalAgreement x = c.nodes(0, 1000, "0", "1/1000");
            c.same("1 / 1000", x.roundsTo(1, 1000, 0), 0);
            c.same("0 / 1000", x.roundsTo(0, 1000, 0), NONE);
        });
        s.test("`most`: the greatest number of rounds that is tried, 0 to 60", c -> {
            c.range("roundsTo, most", 0, 60, BAD_VALUE,
                    most -> new IntervalAgreement().roundsTo(0, 1, most), most -> 0);
            IntervalAgreement x = Promises13To15.halvedAfter(c, 0);
            c.same("2 rounds of 3 that are needed", x.roundsTo(2, 1, 2), NONE);
            c.same("3 rounds of 3 that are needed", x.roundsTo(2, 1, 3), 3);
            c.same("60 rounds of 3 that are needed", x.roundsTo(2, 1, 60), 3);
        });
    }

    private static void roundsToAnswers(Sentences s) {
        s.test("Returns how many rounds runTo() would carry out; BAD_VALUE; NONE as for runTo().", c -> {
            for (int r : new int[] {0, 57, 58, 59, 60}) {
                for (int goal = 1; goal <= 16; goal++) {
                    for (int most = 0; most <= 4; most++) {
                        int halvings = goal == 16 ? 0 : goal >= 8 ? 1 : goal >= 4 ? 2 : goal >= 2 ? 3 : 4;
                        int due = halvings <= most && r + halvings <= 60 ? halvings : NONE;
                        IntervalAgreement x = Promises13To15.halvedAfter(c, r);
                        c.same("roundsTo", x.roundsTo(goal, 1, most), due);
                        c.same("roundsTo again", x.roundsTo(goal, 1, most), due);
                        c.same("r", x.count(3), r);
                        c.value(x, 1, r + 1, NO_VALUE, NO_VALUE);
                        c.same("runTo", x.runTo(goal, 1, most), due);
                    }
                }
            }
            IntervalAgreement last = Promises13To15.halvedAfter(c, 60);
            c.same("with an error", last.roundsTo(1, 1, 61), BAD_VALUE);
        });
    }

    /**
     * Only node 0 hears the faulty node 2, of which the input is 0, the amount 1 and the lie 3/2, and
     * node 1 stays at 0. After 1, 2, 3 and 4 rounds the table has a width of 3/4, 9/8, 21/16 and
     * 45/32, split and mirror of 1/2, 1, 3/2 and 2, and drift of 0, 1/2, 5/4 and 17/8.
     */
    private static IntervalAgreement drawn(Check c, int rounds) {
        IntervalAgreement x = c.nodes(0, 720720, "0", "0", "0");
        x.setLink(0, 1, -1);
        x.setLink(1, 0, -1);
        x.setLink(2, 1, -1);
        c.lie(x, 2, 0, "3/2");
        x.setFaulty(2, 4, 1, 1);
        if (rounds > 0) {
            x.run(rounds);
        }
        return x;
    }

    private static void worstStrategy(Sentences s) {
        s.section("Promise 27: worstStrategy");
        s.test("Finds the strategy of a faulty node, with its amount and its lies as they are, with"
                + " which the width is greatest after some more rounds.", c -> {
            IntervalAgreement x = drawn(c, 0);
            int[] worst = {0, 1, 1, 2, 5, 5, 5, 5, 5, 5, 5};
            for (int rounds = 1; rounds <= 10; rounds++) {
                c.same("worstStrategy(2, " + rounds + ")", x.worstStrategy(2, rounds), worst[rounds]);
            }
            c.same("strategy", x.strategy(2), 4);
            // The drift of one round is 1/2 now, and of two rounds 1.
            c.same("after a round", drawn(c, 1).worstStrategy(2, 1), 1);
            c.same("after two rounds", drawn(c, 2).worstStrategy(2, 1), 5);
            c.lie(x, 2, 0, "1");
            c.same("with a smaller lie", x.worstStrategy(2, 2), 2);
            x.setFaulty(2, 4, 2, 1);
            c.same("with a greater amount", x.worstStrategy(2, 1), 2);
            IntervalAgreement silent = c.nodes(0, 1, "0", "5", "0");
            silent.setFaulty(2, 3, -2, 1);
            // Table and drift: 1 and 1; split: 2 and 2; mirror: 1 and 2; silent: 1 and 3.
            c.same("silent", silent.worstStrategy(2, 1), 4);
            IntervalAgreement mirror = c.nodes(0, 60, "0", "6", "0");
            mirror.setFaulty(2, 5, -1, 60);
            // In units: table and drift: 0; split: 239 - 120; mirror: 239 - 119; silent: 240 - 120.
            c.same("mirror", mirror.worstStrategy(2, 1), 3);
        });
    }

    private static void worstStrategyArguments(Sentences s) {
        s.test("`node`: a faulty node", c -> {
            for (int nodes : new int[] {2, 10}) {
                c.range("worstStrategy of", 0, nodes - 1, UNKNOWN, node -> {
                    IntervalAgreement x = Check.fresh(nodes, 1, 60);
                    x.setFaulty(node, 3, 0, 1);
                    return x.worstStrategy(node, 1);
                }, node -> 1);
                c.same("of a correct node", Check.fresh(nodes, 1, 60).worstStrategy(nodes - 1, 1),
                        NOT_NOW);
            }
        });
        s.test("`rounds`: 1 to 10", c -> {
            c.range("worstStrategy, rounds", 1, 10, BAD_VALUE,
                    rounds -> drawn(c, 0).worstStrategy(2, rounds), rounds -> rounds < 3 ? 1 : 5);
        });
    }

    private static void worstStrategyAnswers(Sentences s) {
        s.test("Returns the strategy, the lowest one of several; UNKNOWN; BAD_VALUE; NOT_NOW if the node"
                + " is correct; FULL if r plus rounds is greater than 60.", c -> {
            IntervalAgreement same = Check.fresh(4, 1, 60);
            same.setFaulty(3, 5, 0, 1);
            c.same("all are the same", same.worstStrategy(3, 10), 1);
            IntervalAgreement three = c.nodes(0, 60, "0", "6", "0");
            three.setFaulty(2, 4, 0, 1);
            // Split, mirror and silent: 2 and 4; table and drift: 2 and 2.
            c.same("three are the same", three.worstStrategy(2, 1), 2);
            c.same("of no node", three.worstStrategy(3, 1), UNKNOWN);
            c.same("of no node", three.worstStrategy(-1, 1), UNKNOWN);
            c.same("0 rounds", three.worstStrategy(2, 0), BAD_VALUE);
            c.same("of a correct node", three.worstStrategy(1, 1), NOT_NOW);
            three.setFaulty(0, 1, 0, 1);
            three.setFaulty(1, 1, 0, 1);
            c.same("without a correct node", three.worstStrategy(0, 1), 1);
            for (int r = 50; r <= 60; r++) {
                IntervalAgreement x = drawn(c, r);
                for (int rounds = 1; rounds <= 10; rounds++) {
                    c.same("worstStrategy(2, " + rounds + ") after " + r, x.worstStrategy(2, rounds),
                            r + rounds > 60 ? FULL : 5);
                    c.same("of a correct node", x.worstStrategy(0, rounds), NOT_NOW);
                }
                c.same("11 rounds after " + r, x.worstStrategy(2, 11), BAD_VALUE);
            }
        });
    }

    /** Which rule is the best one changes with the number of rounds. */
    private static IntervalAgreement mixed(Check c, int rounds) {
        IntervalAgreement x = c.nodes(1, 60, "9", "9", "5", "1", "8", "5");
        x.setFaulty(5, 2, 2, 1);
        x.setLink(2, 4, 2);
        if (rounds > 0) {
            x.run(rounds);
        }
        return x;
    }

    private static long unitsOfWidth(IntervalAgreement x, int round) {
        return x.width(round, false) * 60 / x.width(round, true);
    }

    private static int bestByHand(IntervalAgreement x, int rounds) {
        int best = -1;
        long least = 0;
        for (int rule = 0; rule <= 3; rule++) {
            x.setRule(rule);
            int last = x.run(rounds);
            long width = unitsOfWidth(x, last);
            if (best < 0 || width < least) {
                best = rule;
                least = width;
            }
            x.back(rounds);
        }
        return best;
    }

    private static void bestRule(Sentences s) {
        s.section("Promise 28: bestRule");
        s.test("Finds the rule with which the width is least after some more rounds.", c -> {
            for (int r = 0; r <= 3; r++) {
                for (int rounds = 1; rounds <= 10; rounds++) {
                    c.same("bestRule(" + rounds + ") after " + r, mixed(c, r).bestRule(rounds),
                            bestByHand(mixed(c, r), rounds));
                }
            }
            IntervalAgreement x = mixed(c, 0);
            x.setRule(2);
            int answers = 0;
            for (int rounds = 1; rounds <= 10; rounds++) {
                answers |= 1 << x.bestRule(rounds);
            }
            c.same("mean, midpoint and median are each the best once", answers, 7);
            c.same("the rule", x.count(5), 2);
            IntervalAgreement select = c.nodes(2, 60, "12", "6", "12", "6", "0", "0", "0", "0");
            select.setFaulty(7, 1, 0, 1);
            c.lie(select, 7, 3, "12");
            select.setLink(1, 2, -1);
            // Left are 0, 0, 6 for node 2, 0, 6, 6, 12 for node 3 and 0, 0, 6, 6 for the others.
            // Mean: 2, 6, 3; midpoint: 3, 6, 3; median: 0, 6, 3; select: 3 for all.
            c.same("select", select.bestRule(1), 3);
        });
        s.test("`rounds`: 1 to 10", c -> c.range("bestRule", 1, 10, BAD_VALUE,
                rounds -> new IntervalAgreement().bestRule(rounds), rounds -> 0));
    }

    private static void bestRuleAnswers(Sentences s) {
        s.test("Returns the rule, the lowest one of several; BAD_VALUE; FULL if r plus rounds is greater"
                + " than 60.", c -> {
            IntervalAgreement same = Check.fresh(4, 1, 60);
            same.setRule(3);
            c.same("all are the same", same.bestRule(10), 0);
            IntervalAgreement ends = c.nodes(3, 60, "0", "0", "0", "1", "5", "9", "10", "10", "10", "0");
            ends.setFaulty(9, 1, 0, 1);
            for (int receiver = 0; receiver < 9; receiver++) {
                c.lie(ends, 9, receiver, receiver + "");
            }
            // Of 1, 5, 9 and a lie between them midpoint and select take the ends alone.
            c.same("midpoint and select are the same", ends.bestRule(1), 1);
            IntervalAgreement sums = c.nodes(0, 60, "0", "10", "0", "0");
            sums.setFaulty(2, 1, 0, 1);
            sums.setFaulty(3, 1, 0, 1);
            c.lie(sums, 2, 0, "20");
            c.lie(sums, 3, 0, "-2");
            c.lie(sums, 2, 1, "9");
            c.lie(sums, 3, 1, "9");
            // Mean and select: 7 and 7; midpoint: 9 and 5; median: 5 and 9.
            sums.setRule(3);
            c.same("mean and select are the same", sums.bestRule(1), 0);
            for (int r = 50; r <= 60; r++) {
                IntervalAgreement x = mixed(c, r);
                for (int rounds = 1; rounds <= 10; rounds++) {
                    c.same("bestRule(" + rounds + ") after " + r + " is full",
                            x.bestRule(rounds) == FULL ? 1 : 0, r + rounds > 60 ? 1 : 0);
                }
                c.same("11 rounds after " + r, x.bestRule(11), BAD_VALUE);
                c.same("0 rounds after " + r, x.bestRule(0), BAD_VALUE);
            }
        });
    }
}
