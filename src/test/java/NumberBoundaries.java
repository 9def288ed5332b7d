/** Boundaries of what the document tells under What it is, NUMBERS and NODES. */
final class NumberBoundaries {
    private static final long NO_VALUE = Check.NO_VALUE;

    private NumberBoundaries() {
    }

    static void test(Sentences s) {
        whatItIs(s);
        numbers(s);
        fractions(s);
        nodes(s);
        values(s);
        links(s);
    }

    /** What is counted then, or the error that reset answers. */
    private static int countAfterReset(int nodes, int trim, int grid, int what) {
        IntervalAgreement x = new IntervalAgreement();
        int answer = x.reset(nodes, trim, grid);
        return answer < 0 ? answer : x.count(what);
    }

    private static void whatItIs(Sentences s) {
        s.section("What it is");
        s.noBoundary("A simulation of approximate agreement: nodes hold intervals of fractions, send"
                + " them to each other in rounds, discard the least and the greatest of what they"
                + " receive, and combine the rest by one of four rules, so that their intervals"
                + " approach each other although faulty nodes send different values to different"
                + " receivers. Rounds can be taken back, convergence is measured and compared with"
                + " what is guaranteed, and strategies of faulty nodes are compared.");
        s.test("An object is used for at most 512 calls after it has been made; what later calls"
                + " answer is free.", c -> {
            IntervalAgreement runs = new IntervalAgreement();
            IntervalAgreement types = new IntervalAgreement();
            IntervalAgreement trials = new IntervalAgreement();
            for (int call = 1; call <= 512; call++) {
                boolean there = call % 2 == 1;
                c.same("run or back, call " + call, there ? runs.run(60) : runs.back(60),
                        there ? 60 : 0);
                c.same("type, call " + call, types.type('1'), call <= 40 ? call : Check.FULL);
                c.same("bestRule, call " + call, trials.bestRule(10), 0);
            }
        });
    }

    private static void numbers(Sentences s) {
        s.section("NUMBERS");
        s.test("There is a grid g, 1 to 720720.", c -> c.range("the grid of reset", 1, 720720,
                Check.BAD_VALUE, grid -> countAfterReset(4, 1, grid, 2), grid -> grid));
        s.test("All numbers are multiples of 1 / g, called units below when they are counted.", c -> {
            TextTest.read(c, 720720, "1/720720", 1, 720720, 1, 720720);
            TextTest.fault(c, 720720, "1/720721", 0);
            TextTest.fault(c, 1, "1/2", 0);
            c.same("an amount of a unit", Check.fresh(2, 0, 999).setFaulty(1, 3, 1, 999), 0);
            c.same("an amount of less", Check.fresh(2, 0, 999).setFaulty(1, 3, 1, 1000),
                    Check.BAD_VALUE);
            IntervalAgreement x = c.nodes(0, 1, "0", "1");
            x.run(1);
            c.value(x, 0, 1, 0, 1);
        });
        s.test("To round down means to replace a number by the greatest multiple of 1 / g that is not"
                + " greater.", c -> {
            // The sum of three nodes in units, and a third of it rounded down.
            int[][] sums = {{-4, -2}, {-3, -1}, {-2, -1}, {-1, -1}, {0, 0}, {1, 0}, {2, 0}, {3, 1},
                {4, 1}};
            for (int[] sum : sums) {
                IntervalAgreement x = c.nodes(0, 1, sum[0] + "", "0", "0");
                x.run(1);
                c.value(x, 1, 1, sum[1], 1);
            }
            IntervalAgreement fine = c.nodes(0, 720720, "-1/720720", "0");
            fine.run(1);
            c.value(fine, 1, 1, -1, 720720);
        });
        s.test("An interval has a low and a high end, low at most high.", c -> {
            TextTest.read(c, 60, "5..5", 5, 1, 5, 1);
            TextTest.read(c, 60, "-1/60..0", -1, 60, 0, 1);
            TextTest.fault(c, 60, "0..-1/60", 3);
            TextTest.fault(c, 60, "5..299/60", 3);
        });
    }

    private static void fractions(Sentences s) {
        s.test("A fraction is returned as its numerator or its denominator in lowest terms with a"
                + " denominator above 0 (0 is 0 / 1); the boolean parameter denominator tells which"
                + " one.", c -> {
            IntervalAgreement x = c.nodes(0, 720720, "-3/6..720720/720720", "-0..10/4");
            c.end(x, 0, 0, false, -1, 2);
            c.end(x, 0, 0, true, 1, 1);
            c.inputEnd(x, 1, false, 0, 1);
            c.inputEnd(x, 1, true, 5, 2);
            c.received(x, 0, 1, false, 0, 1);
            c.rest(x, 0, 1, false, 0, 1);
            c.width(x, 0, 3, 2);
            c.hull(x, false, -1, 2);
            c.guarantee("without a trim", x, 0, 1);
            x.run(1);
            c.width(x, 1, 0, 1);
            c.rate(x, 1, 0, 1);
            IntervalAgreement zero = Check.fresh(2, 0, 720720);
            c.hull(zero, true, 0, 1);
            c.value(zero, 0, 0, 0, 1);
        });
    }

    private static void nodes(Sentences s) {
        s.section("NODES");
        s.test("There are n nodes, 2 to 10, numbered from 0.", c -> {
            c.range("the nodes of reset", 2, 10, Check.BAD_VALUE,
                    nodes -> countAfterReset(nodes, 1, 60, 0), nodes -> nodes);
            for (int nodes : new int[] {2, 10}) {
                c.range("strategy", 0, nodes - 1, Check.UNKNOWN,
                        node -> Check.fresh(nodes, 1, 60).strategy(node), node -> 0);
            }
        });
        s.test("There is a trim t, 0 to 3.", c -> c.range("the trim of reset", 0, 3, Check.BAD_VALUE,
                trim -> countAfterReset(4, trim, 60, 1), trim -> trim));
        s.test("A node has an input, an interval with ends from -1000 to 1000, at first [0, 0].", c -> {
            IntervalAgreement x = Check.fresh(10, 0, 60);
            for (int node = 0; node < 10; node++) {
                c.inputEnd(x, node, false, 0, 1);
                c.inputEnd(x, node, true, 0, 1);
            }
            TextTest.read(c, 60, "-1000..1000", -1000, 1, 1000, 1);
            TextTest.fault(c, 60, "60001/60", 0);
            TextTest.fault(c, 60, "-60001/60", 0);
        });
        s.test("It is correct (at first), or faulty with a strategy and an amount.", c -> {
            IntervalAgreement x = Check.fresh(10, 0, 60);
            for (int node = 0; node < 10; node++) {
                c.same("strategy(" + node + ")", x.strategy(node), 0);
                c.same("setFaulty(" + node + ")", x.setFaulty(node, 3, node, 2), 0);
                c.same("strategy(" + node + ")", x.strategy(node), 3);
            }
            c.same("all are faulty", x.count(4), 10);
            x.setCorrect(0);
            c.received(x, 0, 9, true, 9, 2);
        });
        s.test("The number of rounds is r, 0 at first, at most 60.", c -> {
            IntervalAgreement x = new IntervalAgreement();
            c.same("r at first", x.count(3), 0);
            for (int round = 1; round <= 60; round++) {
                c.same("run(1)", x.run(1), round);
            }
            c.same("one more", x.run(1), Check.FULL);
            c.same("r at last", x.count(3), 60);
        });
    }

    private static void values(Sentences s) {
        s.test("A correct node has a value, which is its input before the first round.", c -> {
            IntervalAgreement x = c.nodes(0, 60, "-1000..1000", "2..7/2");
            c.end(x, 0, 0, false, -1000, 1);
            c.end(x, 1, 0, true, 7, 2);
            c.value(x, 0, 1, NO_VALUE, NO_VALUE);
            x.run(60);
            c.end(x, 0, 0, false, -1000, 1);
            c.end(x, 1, 0, true, 7, 2);
            x.back(60);
            c.end(x, 0, 0, true, 1000, 1);
        });
        s.test("A faulty node has no value.", c -> {
            IntervalAgreement x = c.nodes(0, 60, "1", "2", "3");
            x.setFaulty(2, 4, 0, 1);
            x.run(60);
            for (int round = 0; round <= 60; round++) {
                c.value(x, 2, round, NO_VALUE, NO_VALUE);
            }
            c.same("all correct nodes have one value then", x.count(7), 1);
        });
    }

    private static void links(Sentences s) {
        s.test("For each two different nodes there is a link from the one to the other, with a delay"
                + " from 0 to 3 (0 at first), or none.", c -> {
            IntervalAgreement x = Check.fresh(10, 0, 60);
            c.same("links", x.count(6), 90);
            for (int from = 0; from < 10; from++) {
                for (int to = 0; to < 10; to++) {
                    c.same("setLink(" + from + ", " + to + ", 3)", x.setLink(from, to, 3),
                            from == to ? Check.UNKNOWN : 0);
                }
            }
            c.same("a delay of 4", x.setLink(8, 9, 4), Check.BAD_VALUE);
            c.same("none", x.setLink(8, 9, -1), 3);
            c.same("less than none", x.setLink(8, 9, -2), Check.BAD_VALUE);
            c.same("the other way", x.setLink(9, 8, 0), 3);
            c.same("none still", x.setLink(8, 9, 0), -1);
        });
    }
}
