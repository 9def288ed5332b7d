/** Boundaries of the promises 13 to 15: run, runTo and back. */
final class Promises13To15 {
    private static final int BAD_VALUE = Check.BAD_VALUE;
    private static final int FULL = Check.FULL;
    private static final int NONE = Check.NONE;
    private static final long NO_VALUE = Check.NO_VALUE;

    private Promises13To15() {
    }

    static void test(Sentences s) {
        run(s);
        runTo(s);
        runToArguments(s);
        runToAnswers(s);
        back(s);
        backArguments(s);
    }

    /**
     * The values are 0 and 16 after the given number of rounds. Then a link carries 0 to the other
     * node, so that the width is halved in each round.
     */
    static IntervalAgreement halvedAfter(Check c, int rounds) {
        IntervalAgreement x = c.nodes(0, 720720, "0", "16");
        x.setLink(0, 1, -1);
        x.setLink(1, 0, -1);
        if (rounds > 0) {
            x.run(rounds);
        }
        x.setLink(0, 1, 0);
        return x;
    }

    private static void run(Sentences s) {
        s.section("Promise 13: run");
        s.noBoundary("---- rounds");
        s.test("Carries out rounds.", c -> {
            IntervalAgreement x = halvedAfter(c, 0);
            x.run(1);
            c.value(x, 1, 1, 8, 1);
            c.value(x, 1, 2, NO_VALUE, NO_VALUE);
            x.run(3);
            c.value(x, 1, 4, 1, 1);
            c.value(x, 1, 5, NO_VALUE, NO_VALUE);
            x.run(56);
            c.value(x, 1, 60, 0, 1);
            c.value(x, 1, 4, 1, 1);
        });
        s.test("`rounds`: 1 to 60", c -> c.range("run", 1, 60, BAD_VALUE,
                rounds -> new IntervalAgreement().run(rounds), rounds -> rounds));
        s.test("Returns r then; BAD_VALUE; FULL if r would be greater than 60.", c -> {
            for (int r : new int[] {1, 30, 59}) {
                IntervalAgreement x = new IntervalAgreement();
                c.same("run(" + r + ")", x.run(r), r);
                c.same("one too many", x.run(61 - r), FULL);
                c.same("run(60)", x.run(60), FULL);
                c.same("run(61)", x.run(61), BAD_VALUE);
                c.same("r stays", x.count(3), r);
                c.same("just as many as there is room for", x.run(60 - r), 60);
                c.same("run(1) at 60", x.run(1), FULL);
                c.same("run(0) at 60", x.run(0), BAD_VALUE);
            }
        });
    }

    private static void runTo(Sentences s) {
        s.section("Promise 14: runTo");
        s.test("Carries out rounds until the width is at most a given one (none if it is already).",
                c -> {
            IntervalAgreement x = halvedAfter(c, 0);
            c.same("the width itself", x.runTo(16, 1, 60), 0);
            c.same("a greater width", x.runTo(17, 1, 60), 0);
            c.same("r stays", x.count(3), 0);
            c.same("a little less", x.runTo(159, 10, 60), 1);
            c.width(x, 1, 8, 1);
            c.same("the half of the half", x.runTo(2, 1, 60), 2);
            c.width(x, 3, 2, 1);
            // Each width is rounded down, and at the end it is 0.
            c.same("0", x.runTo(0, 1, 60), 21);
            c.width(x, 23, 1, 720720);
            c.width(x, 24, 0, 1);
            // A third is between what is given, and neither of that is a multiple of a unit.
            IntervalAgreement third = c.nodes(0, 3, "0", "1/3");
            c.same("more than a third", third.runTo(334, 1000, 60), 0);
            c.same("less than a third", third.runTo(333, 1000, 60), 1);
        });
    }

    private static void runToArguments(Sentences s) {
        s.test("`numerator`: of the given width, 0 to 1000", c -> {
            c.range("runTo, numerator", 0, 1000, BAD_VALUE,
                    numerator -> new IntervalAgreement().runTo(numerator, 1, 60), numerator -> 0);
            IntervalAgreement x = c.nodes(0, 60, "-1000", "0");
            c.same("1000", x.runTo(1000, 1, 0), 0);
            c.same("999", x.runTo(999, 1, 0), NONE);
        });
        s.test("`denominator`: 1 to 1000", c -> {
            c.range("runTo, denominator", 1, 1000, BAD_VALUE,
                    denominator -> new IntervalAgreement().runTo(0, denominator, 60),
                    denominator -> 0);
            IntervalAgreement x = c.nodes(0, 1000, "0", "1/1000");
            c.same("1 / 1000", x.runTo(1, 1000, 0), 0);
            c.same("0 / 1000", x.runTo(0, 1000, 0), NONE);
            c.same("1 / -1", x.runTo(1, -1, 0), BAD_VALUE);
        });
        s.test("`most`: the greatest number of rounds to carry out, 0 to 60", c -> {
            c.range("runTo, most", 0, 60, BAD_VALUE,
                    most -> new IntervalAgreement().runTo(0, 1, most), most -> 0);
            c.same("2 rounds of 3 that are needed", halvedAfter(c, 0).runTo(2, 1, 2), NONE);
            c.same("3 rounds of 3 that are needed", halvedAfter(c, 0).runTo(2, 1, 3), 3);
            c.same("60 rounds of 3 that are needed", halvedAfter(c, 0).runTo(2, 1, 60), 3);
        });
    }

    private static void runToAnswers(Sentences s) {
        s.test("Returns the number of rounds that were carried out; BAD_VALUE; NONE if so many rounds"
                + " are not enough, or r would be greater than 60.", c -> {
            IntervalAgreement few = halvedAfter(c, 0);
            c.same("none of 0", few.runTo(15, 1, 0), NONE);
            c.same("two of 3", few.runTo(2, 1, 2), NONE);
            c.same("r stays", few.count(3), 0);
            c.same("three of 3", few.runTo(2, 1, 3), 3);
            c.same("r is 3", few.count(3), 3);
            IntervalAgreement last = halvedAfter(c, 58);
            c.same("three of 2 that are left", last.runTo(2, 1, 60), NONE);
            c.same("r stays", last.count(3), 58);
            c.value(last, 1, 59, NO_VALUE, NO_VALUE);
            c.same("two of 2 that are left", last.runTo(4, 1, 60), 2);
            c.same("r is 60", last.count(3), 60);
            c.same("none of none", last.runTo(4, 1, 60), 0);
            c.same("one of none", last.runTo(3, 1, 60), NONE);
            c.same("one of none, with an error", last.runTo(3, 1, 61), BAD_VALUE);
            c.same("r stays 60", last.count(3), 60);
            c.width(last, 60, 4, 1);
        });
    }

    private static void back(Sentences s) {
        s.section("Promise 15: back");
        s.test("Takes the latest rounds back: r and the values become as they were.", c -> {
            IntervalAgreement x = halvedAfter(c, 0);
            x.run(60);
            x.back(58);
            c.same("r", x.count(3), 2);
            c.value(x, 1, 2, 4, 1);
            c.value(x, 1, 3, NO_VALUE, NO_VALUE);
            c.width(x, 2, 4, 1);
            c.same("different values", x.count(7), 2);
            x.setLink(0, 1, -1);
            x.run(1);
            c.value(x, 1, 3, 4, 1);
            x.back(3);
            c.value(x, 1, 0, 16, 1);
            c.value(x, 1, 1, NO_VALUE, NO_VALUE);
        });
        s.test("The rule, the links and the lies stay as they are now.", c -> {
            IntervalAgreement x = c.nodes(0, 60, "0", "8", "1");
            x.setFaulty(2, 1, 0, 1);
            x.run(60);
            x.setRule(3);
            x.setLink(0, 1, 3);
            x.setLink(1, 0, -1);
            c.lie(x, 2, 0, "5..6");
            x.back(60);
            c.same("rule", x.count(5), 3);
            c.same("a delay", x.setLink(0, 1, 0), 3);
            c.same("no link", x.setLink(1, 0, 0), -1);
            c.received(x, 0, 2, false, 5, 1);
            c.received(x, 0, 2, true, 6, 1);
        });
    }

    private static void backArguments(Sentences s) {
        s.test("`rounds`: 0 to r", c -> {
            for (int r : new int[] {1, 30, 60}) {
                c.range("back of " + r, 0, r, BAD_VALUE, rounds -> {
                    IntervalAgreement x = new IntervalAgreement();
                    x.run(r);
                    return x.back(rounds);
                }, rounds -> r - rounds);
            }
            c.range("back of 0", 0, 0, BAD_VALUE, rounds -> new IntervalAgreement().back(rounds),
                    rounds -> 0);
        });
        s.test("Returns r then; BAD_VALUE.", c -> {
            IntervalAgreement x = new IntervalAgreement();
            x.run(60);
            c.same("back(61)", x.back(61), BAD_VALUE);
            c.same("back(59)", x.back(59), 1);
            c.same("back(2)", x.back(2), BAD_VALUE);
            c.same("back(0)", x.back(0), 1);
            c.same("back(1)", x.back(1), 0);
            c.same("back(1) of 0", x.back(1), BAD_VALUE);
            c.same("back(0) of 0", x.back(0), 0);
            c.same("back(-1)", x.back(-1), BAD_VALUE);
        });
    }
}
