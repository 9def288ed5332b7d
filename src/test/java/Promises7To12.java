/** Boundaries of the promises 7 to 12: nodes, links, the rule, count and strategy. */
final class Promises7To12 {
    private static final int UNKNOWN = Check.UNKNOWN;
    private static final int BAD_VALUE = Check.BAD_VALUE;
    private static final int NOT_NOW = Check.NOT_NOW;
    private static final long NO_VALUE = Check.NO_VALUE;

    private Promises7To12() {
    }

    static void test(Sentences s) {
        setFaulty(s);
        setFaultyArguments(s);
        setFaultyAnswers(s);
        setCorrect(s);
        setLink(s);
        setRule(s);
        count(s);
        strategy(s);
    }

    private static void setFaulty(Sentences s) {
        s.section("Promise 7: setFaulty");
        s.noBoundary("---- nodes and links");
        s.test("Makes a node faulty, or changes its strategy and amount.", c -> {
            IntervalAgreement x = c.nodes(0, 60, "5", "7", "9");
            c.same("faulty nodes", x.count(4), 0);
            x.setFaulty(2, 3, 1, 1);
            c.same("faulty nodes then", x.count(4), 1);
            c.received(x, 0, 2, false, 6, 1);
            x.setFaulty(2, 3, -1, 1);
            c.received(x, 0, 2, false, 4, 1);
            x.setFaulty(2, 2, -1, 1);
            c.received(x, 1, 2, false, 6, 1);
            c.same("faulty nodes still", x.count(4), 1);
            c.value(x, 2, 0, NO_VALUE, NO_VALUE);
        });
        s.test("The lies that were read for it stay.", c -> {
            IntervalAgreement x = c.nodes(0, 60, "5", "7", "9");
            c.lie(x, 2, 0, "1..2");
            for (int strategy = 5; strategy >= 1; strategy--) {
                x.setFaulty(2, strategy, 1, 1);
            }
            c.received(x, 0, 2, false, 1, 1);
            c.received(x, 0, 2, true, 2, 1);
        });
        s.test(Sentences.NODE, c -> {
            for (int nodes : new int[] {2, 10}) {
                c.range("setFaulty", 0, nodes - 1, UNKNOWN,
                        node -> Check.fresh(nodes, 1, 60).setFaulty(node, 1, 0, 1), node -> 0);
            }
        });
    }

    private static void setFaultyArguments(Sentences s) {
        s.test("`strategy`: 1 to 5", c -> c.range("setFaulty, strategy", 1, 5, BAD_VALUE, strategy -> {
            IntervalAgreement x = new IntervalAgreement();
            int answer = x.setFaulty(3, strategy, 0, 1);
            return answer == 0 ? x.strategy(3) : answer;
        }, strategy -> strategy));
        s.test("`numerator`: of the amount, -1000 to 1000", c -> {
            c.range("setFaulty, numerator", -1000, 1000, BAD_VALUE, numerator -> {
                IntervalAgreement x = new IntervalAgreement();
                int answer = x.setFaulty(3, 3, numerator, 1);
                return answer == 0 ? x.received(0, 3, false, false) : answer;
            }, numerator -> numerator);
            c.same("1001 / 1001", new IntervalAgreement().setFaulty(3, 3, 1001, 1001), BAD_VALUE);
        });
        s.test("`denominator`: of the amount, 1 to 1000", c -> {
            c.range("setFaulty, denominator", 1, 1000, BAD_VALUE, denominator -> {
                IntervalAgreement x = new IntervalAgreement();
                return x.setFaulty(3, 3, 0, denominator);
            }, denominator -> 0);
            IntervalAgreement x = Check.fresh(4, 1, 1000);
            c.same("1 / 1000", x.setFaulty(3, 3, 1, 1000), 0);
            c.received(x, 0, 3, false, 1, 1000);
            c.same("-1000 / 1000", x.setFaulty(3, 3, -1000, 1000), 3);
            c.received(x, 0, 3, false, -1, 1);
            c.same("0 / 0", x.setFaulty(3, 3, 0, 0), BAD_VALUE);
            c.same("1 / -1", x.setFaulty(3, 3, 1, -1), BAD_VALUE);
        });
    }

    private static void setFaultyAnswers(Sentences s) {
        s.test("Returns the previous strategy, 0 if it was correct; UNKNOWN; BAD_VALUE, also if the"
                + " amount is not a multiple of 1 / g; NOT_NOW if r is not 0.", c -> {
            IntervalAgreement x = Check.fresh(3, 1, 6);
            c.same("it was correct", x.setFaulty(2, 5, 0, 1), 0);
            c.same("it was 5", x.setFaulty(2, 1, 0, 1), 5);
            c.same("it was 1", x.setFaulty(2, 1, 0, 1), 1);
            c.same("a unit", x.setFaulty(2, 1, -1, 6), 1);
            c.same("half a unit", x.setFaulty(2, 2, 1, 12), BAD_VALUE);
            c.same("less than a unit below 0", x.setFaulty(2, 2, -1, 7), BAD_VALUE);
            c.same("a unit more than 166", x.setFaulty(2, 2, 1000, 6), 1);
            c.same("12 / 72", x.setFaulty(2, 2, 12, 72), 2);
            c.same("of no node", x.setFaulty(3, 2, 0, 1), UNKNOWN);
            for (int rounds = 1; rounds <= 60; rounds += 59) {
                x.run(rounds);
                c.same("after " + rounds, x.setFaulty(2, 3, 0, 1), NOT_NOW);
                c.same("of no node", x.setFaulty(3, 3, 0, 1), UNKNOWN);
                c.same("not a multiple", x.setFaulty(2, 3, 1, 7), BAD_VALUE);
                c.same("it is 2 still", x.strategy(2), 2);
                x.back(rounds);
            }
            c.same("when all is taken back", x.setFaulty(2, 3, 0, 1), 2);
            IntervalAgreement coarse = Check.fresh(3, 1, 1);
            c.same("1 / 2 of grid 1", coarse.setFaulty(2, 3, 1, 2), BAD_VALUE);
            c.same("2 / 2 of grid 1", coarse.setFaulty(2, 3, 2, 2), 0);
        });
    }

    private static void setCorrect(Sentences s) {
        s.section("Promise 8: setCorrect");
        s.test("Makes a node correct.", c -> {
            IntervalAgreement x = Check.fresh(2, 0, 60);
            x.setFaulty(0, 2, 1, 1);
            x.setFaulty(1, 2, 1, 1);
            x.setCorrect(1);
            c.same("strategy(1)", x.strategy(1), 0);
            c.same("faulty nodes", x.count(4), 1);
            x.setCorrect(0);
            x.setCorrect(0);
            c.same("faulty nodes then", x.count(4), 0);
        });
        s.test("Its value is its input.", c -> {
            IntervalAgreement x = c.nodes(0, 60, "-1000..1000", "1");
            x.setFaulty(0, 5, 1, 1);
            x.run(60);
            x.back(60);
            x.setCorrect(0);
            c.end(x, 0, 0, false, -1000, 1);
            c.end(x, 0, 0, true, 1000, 1);
            x.setFaulty(1, 5, 1, 1);
            c.input(x, 1, "2..3");
            x.setCorrect(1);
            c.end(x, 1, 0, false, 2, 1);
            c.end(x, 1, 0, true, 3, 1);
        });
        s.test("The lies that were read for it stay.", c -> {
            IntervalAgreement x = c.nodes(0, 60, "5", "7");
            c.lie(x, 1, 0, "1..2");
            x.setFaulty(1, 1, 0, 1);
            x.setCorrect(1);
            c.received(x, 0, 1, false, 7, 1);
            x.setFaulty(1, 1, 0, 1);
            c.received(x, 0, 1, false, 1, 1);
            c.received(x, 0, 1, true, 2, 1);
        });
        s.test(Sentences.NODE, c -> {
            for (int nodes : new int[] {2, 10}) {
                c.range("setCorrect", 0, nodes - 1, UNKNOWN,
                        node -> Check.fresh(nodes, 1, 60).setCorrect(node), node -> 0);
            }
        });
        s.test("Returns the previous strategy, 0 if it was correct; UNKNOWN; NOT_NOW if r is not 0.",
                c -> {
            IntervalAgreement x = Check.fresh(2, 0, 60);
            c.same("it was correct", x.setCorrect(1), 0);
            for (int strategy = 1; strategy <= 5; strategy++) {
                x.setFaulty(1, strategy, 0, 1);
                c.same("it was faulty", x.setCorrect(1), strategy);
            }
            x.setFaulty(1, 4, 0, 1);
            for (int rounds = 1; rounds <= 60; rounds += 59) {
                x.run(rounds);
                c.same("of a faulty node", x.setCorrect(1), NOT_NOW);
                c.same("of a correct node", x.setCorrect(0), NOT_NOW);
                c.same("of no node", x.setCorrect(2), UNKNOWN);
                x.back(rounds);
            }
            c.same("when all is taken back", x.setCorrect(1), 4);
        });
    }

    private static void setLink(Sentences s) {
        s.section("Promise 9: setLink");
        s.noBoundary("Sets the delay of a link.");
        s.test("`from`: the node that sends", c -> {
            c.range("setLink from", 0, 8, UNKNOWN, from -> Check.fresh(10, 1, 60).setLink(from, 9, 1),
                    from -> 0);
            c.range("setLink from", 1, 1, UNKNOWN, from -> Check.fresh(2, 1, 60).setLink(from, 0, 1),
                    from -> 0);
        });
        s.test("`to`: the node that receives", c -> {
            c.range("setLink to", 0, 8, UNKNOWN, to -> Check.fresh(10, 1, 60).setLink(9, to, 1),
                    to -> 0);
            c.range("setLink to", 1, 1, UNKNOWN, to -> Check.fresh(2, 1, 60).setLink(0, to, 1),
                    to -> 0);
            IntervalAgreement x = Check.fresh(2, 0, 60);
            x.setLink(0, 1, -1);
            c.received(x, 1, 0, false, NO_VALUE, NO_VALUE);
            c.received(x, 0, 1, false, 0, 1);
        });
        s.test("`delay`: 0 to 3, or -1 for no link", c -> {
            c.range("setLink, delay", -1, 3, BAD_VALUE, delay -> {
                IntervalAgreement x = Check.fresh(2, 1, 60);
                int answer = x.setLink(0, 1, delay);
                return answer == 0 ? x.setLink(0, 1, 0) : answer;
            }, delay -> delay);
        });
        s.test("Returns the previous delay, -1 if there was no link; UNKNOWN; BAD_VALUE.", c -> {
            IntervalAgreement x = Check.fresh(10, 1, 60);
            int[] delays = {3, -1, -1, 0, 2, 1, -1, 0};
            int previous = 0;
            for (int delay : delays) {
                c.same("setLink(9, 8)", x.setLink(9, 8, delay), previous);
                c.same("links", x.count(6), delay < 0 ? 89 : 90);
                previous = delay;
            }
            c.same("no such delay", x.setLink(9, 8, 4), BAD_VALUE);
            c.same("no such node", x.setLink(10, 8, 4), UNKNOWN);
            c.same("the same node", x.setLink(9, 9, 4), UNKNOWN);
            x.run(60);
            c.same("after 60 rounds, too", x.setLink(9, 8, 3), 0);
        });
    }

    private static void setRule(Sentences s) {
        s.section("Promise 10: setRule");
        s.noBoundary("Sets the rule.");
        s.test("`rule`: 0 to 3", c -> c.range("setRule", 0, 3, BAD_VALUE, rule -> {
            IntervalAgreement x = new IntervalAgreement();
            int answer = x.setRule(rule);
            return answer == 0 ? x.count(5) : answer;
        }, rule -> rule));
        s.test("Returns the previous rule; BAD_VALUE.", c -> {
            IntervalAgreement x = new IntervalAgreement();
            int[] rules = {0, 3, 3, 2, 1, 0};
            int previous = 0;
            for (int rule : rules) {
                c.same("setRule(" + rule + ")", x.setRule(rule), previous);
                c.same("setRule(4)", x.setRule(4), BAD_VALUE);
                c.same("setRule(-1)", x.setRule(-1), BAD_VALUE);
                previous = rule;
            }
            x.run(60);
            c.same("after 60 rounds, too", x.setRule(3), 0);
        });
    }

    private static void count(Sentences s) {
        s.section("Promise 11: count");
        s.test("`what`: 0 for n, 1 for t, 2 for g, 3 for r, 4 for the number of faulty nodes, 5 for the"
                + " rule, 6 for the number of links, 7 for the number of different values of correct"
                + " nodes", c -> {
            IntervalAgreement x = Check.fresh(10, 3, 720720);
            counts(c, "the most", x, 10, 3, 720720, 0, 0, 0, 90, 1);
            for (int node = 0; node < 10; node++) {
                c.input(x, node, node / 9 + ".." + (node + 1));
            }
            x.setRule(3);
            counts(c, "different values", x, 10, 3, 720720, 0, 0, 3, 90, 10);
            for (int node = 0; node < 10; node++) {
                x.setFaulty(node, 4, 0, 1);
            }
            x.run(60);
            counts(c, "all faulty", x, 10, 3, 720720, 60, 10, 3, 90, 0);
            IntervalAgreement least = c.nodes(0, 1, "0..1", "0..2");
            counts(c, "the least", least, 2, 0, 1, 0, 0, 0, 2, 2);
            least.setLink(0, 1, -1);
            least.setLink(1, 0, -1);
            c.input(least, 1, "0..1");
            counts(c, "no links", least, 2, 0, 1, 0, 0, 0, 0, 1);
            c.input(least, 1, "1");
            counts(c, "another low end", least, 2, 0, 1, 0, 0, 0, 0, 2);
        });
        s.test("Returns the number; BAD_VALUE.", c -> {
            c.range("count", 0, 7, BAD_VALUE, what -> new IntervalAgreement().count(what),
                    what -> new int[] {4, 1, 720720, 0, 0, 0, 12, 1}[what]);
        });
    }

    private static void counts(Check c, String when, IntervalAgreement x, int... due) {
        for (int what = 0; what < due.length; what++) {
            c.same(when + ", count(" + what + ")", x.count(what), due[what]);
        }
    }

    private static void strategy(Sentences s) {
        s.section("Promise 12: strategy");
        s.test(Sentences.NODE, c -> {
            for (int nodes : new int[] {2, 10}) {
                c.range("strategy", 0, nodes - 1, UNKNOWN, node -> {
                    IntervalAgreement x = Check.fresh(nodes, 0, 60);
                    x.setFaulty(node, 3, 0, 1);
                    return x.strategy(node);
                }, node -> 3);
            }
        });
        s.test("Returns its strategy, 0 if it is correct; UNKNOWN.", c -> {
            IntervalAgreement x = Check.fresh(2, 0, 60);
            c.same("strategy(2)", x.strategy(2), UNKNOWN);
            c.same("strategy(-1)", x.strategy(-1), UNKNOWN);
            c.same("strategy(1)", x.strategy(1), 0);
            for (int strategy = 1; strategy <= 5; strategy++) {
                x.setFaulty(1, strategy, 0, 1);
                c.same("strategy(1)", x.strategy(1), strategy);
                c.same("strategy(0)", x.strategy(0), 0);
            }
            x.run(60);
            c.same("after 60 rounds", x.strategy(1), 5);
            x.back(60);
            x.setCorrect(1);
            c.same("when it is correct again", x.strategy(1), 0);
        });
    }
}
