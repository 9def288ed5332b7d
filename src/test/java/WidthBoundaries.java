/** Boundaries of what the document tells under WIDTHS. */
final class WidthBoundaries {
    private static final long NO_VALUE = Check.NO_VALUE;
    private static final int MEAN = 0;
    private static final int MIDPOINT = 1;
    private static final int MEDIAN = 2;
    private static final int SELECT = 3;

    private WidthBoundaries() {
    }

    static void test(Sentences s) {
        s.section("WIDTHS");
        width(s);
        hull(s);
        guarantee(s);
        withinTheGuarantee(s);
        noGuarantee(s);
    }

    private static void width(Sentences s) {
        s.test("The width (after some rounds) is the greater one of two differences: between the"
                + " greatest and the least low end, and between the greatest and the least high end,"
                + " of the values of all correct nodes; 0 if there is no correct node.", c -> {
            c.width(c.nodes(0, 60, "0..10", "3..11", "1..12"), 0, 3, 1);
            c.width(c.nodes(0, 60, "0..10", "2..11", "1..13"), 0, 3, 1);
            c.width(c.nodes(0, 60, "0..10", "2..12"), 0, 2, 1);
            c.width(c.nodes(0, 60, "0..1", "1/60..1"), 0, 1, 60);
            c.width(c.nodes(0, 60, "0..1", "0..61/60"), 0, 1, 60);
            c.width(c.nodes(0, 60, "-1000", "-1000..1000"), 0, 2000, 1);
            IntervalAgreement x = c.nodes(0, 60, "5..7", "-9..9");
            c.width(x, 0, 14, 1);
            x.setFaulty(1, 4, 0, 1);
            c.width(x, 0, 0, 1);
            x.setFaulty(0, 4, 0, 1);
            c.width(x, 0, 0, 1);
            x.run(60);
            c.width(x, 60, 0, 1);
        });
    }

    private static void hull(Sentences s) {
        s.test("The hull is the interval from the least low end to the greatest high end of the inputs"
                + " of all correct nodes.", c -> {
            IntervalAgreement x = c.nodes(0, 60, "0..1", "1/60..61/60", "-1000..1000", "-1/60..0");
            x.setFaulty(2, 4, 0, 1);
            c.hull(x, false, -1, 60);
            c.hull(x, true, 61, 60);
            x.run(60);
            c.hull(x, false, -1, 60);
            c.hull(x, true, 61, 60);
            x.back(60);
            x.setFaulty(1, 4, 0, 1);
            x.setFaulty(3, 4, 0, 1);
            c.hull(x, false, 0, 1);
            c.hull(x, true, 1, 1);
            x.setFaulty(0, 4, 0, 1);
            c.hull(x, false, NO_VALUE, NO_VALUE);
        });
    }

    private static void guarantee(Check c, int nodes, int trim, int rule, long numerator,
            long denominator) {
        IntervalAgreement x = Check.fresh(nodes, trim, 60);
        x.setRule(rule);
        c.guarantee("of " + nodes + " nodes, trim " + trim + ", rule " + rule, x, numerator,
                denominator);
    }

    private static void guarantee(Sentences s) {
        s.test("The guarantee is a factor, if all links exist, all delays are 0, there are at most t"
                + " faulty nodes, n is greater than 3 * t, and the rule is not median: for t = 0 it is"
                + " 0; otherwise it is t / (n - 2 * t) for mean, 1 / 2 for midpoint, and 1 / ((n - 2 *"
                + " t - 1) / t + 1) for select, where the inner division is rounded down to an"
                + " integer.", c -> {
            for (int rule : new int[] {MEAN, MIDPOINT, SELECT}) {
                guarantee(c, 2, 0, rule, 0, 1);
                guarantee(c, 10, 0, rule, 0, 1);
                for (int trim = 1; trim <= 3; trim++) {
                    guarantee(c, 3 * trim, trim, rule, NO_VALUE, NO_VALUE);
                }
            }
            for (int trim = 1; trim <= 3; trim++) {
                guarantee(c, 3 * trim + 1, trim, MIDPOINT, 1, 2);
            }
            guarantee(c, 4, 1, MEAN, 1, 2);
            guarantee(c, 7, 2, MEAN, 2, 3);
            guarantee(c, 10, 3, MEAN, 3, 4);
            guarantee(c, 10, 2, MEAN, 1, 3);
            guarantee(c, 4, 1, SELECT, 1, 2);
            guarantee(c, 10, 1, SELECT, 1, 8);
            // 3 / 2 and 5 / 2 are rounded down, 2 / 2 and 4 / 2 are not.
            guarantee(c, 7, 2, SELECT, 1, 2);
            guarantee(c, 8, 2, SELECT, 1, 2);
            guarantee(c, 9, 2, SELECT, 1, 3);
            guarantee(c, 10, 2, SELECT, 1, 3);
            guarantee(c, 10, 3, SELECT, 1, 2);
        });
    }

    private static void withinTheGuarantee(Sentences s) {
        s.test("(A width is then at most the factor times the width one round before, plus one"
                + " unit.)", c -> {
            for (int rule : new int[] {MEAN, MIDPOINT, SELECT}) {
                for (int trim = 0; trim <= 3; trim++) {
                    IntervalAgreement x = Check.fresh(10, trim, 60);
                    x.setRule(rule);
                    for (int node = 0; node < 10; node++) {
                        c.input(x, node, (node * node % 17 - 8) + ".." + (9 + node * 7 % 5));
                    }
                    for (int node = 0; node < trim; node++) {
                        x.setFaulty(node, 2, node, 1);
                    }
                    x.run(9);
                    for (int round = 1; round <= 9; round++) {
                        long most = units(x, round - 1) * x.guarantee(false) / x.guarantee(true) + 1;
                        c.holds("round " + round + " of rule " + rule + " and trim " + trim,
                                units(x, round) <= most);
                    }
                }
            }
        });
    }

    private static long units(IntervalAgreement x, int round) {
        return x.width(round, false) * 60 / x.width(round, true);
    }

    private static void noGuarantee(Sentences s) {
        s.test("Otherwise there is no guarantee.", c -> {
            IntervalAgreement x = Check.fresh(7, 2, 60);
            x.setFaulty(0, 1, 0, 1);
            x.setFaulty(6, 5, 0, 1);
            c.guarantee("as many faulty nodes as the trim", x, 2, 3);
            x.setFaulty(3, 1, 0, 1);
            c.guarantee("one faulty node more", x, NO_VALUE, NO_VALUE);
            x.setCorrect(3);
            x.setRule(MEDIAN);
            c.guarantee("median", x, NO_VALUE, NO_VALUE);
            x.setRule(MEAN);
            int[][] links = {{0, 1}, {0, 6}, {6, 0}, {6, 5}, {3, 4}};
            for (int[] link : links) {
                x.setLink(link[0], link[1], 1);
                c.guarantee("a delay of 1", x, NO_VALUE, NO_VALUE);
                x.setLink(link[0], link[1], -1);
                c.guarantee("a missing link", x, NO_VALUE, NO_VALUE);
                x.setLink(link[0], link[1], 0);
                c.guarantee("all links again", x, 2, 3);
            }
            x.run(60);
            c.guarantee("after 60 rounds", x, 2, 3);
            IntervalAgreement none = Check.fresh(2, 0, 60);
            none.setFaulty(1, 4, 0, 1);
            c.guarantee("a faulty node, and no trim", none, NO_VALUE, NO_VALUE);
            guarantee(c, 10, 0, MEDIAN, NO_VALUE, NO_VALUE);
            guarantee(c, 2, 1, MEAN, NO_VALUE, NO_VALUE);
            guarantee(c, 2, 3, SELECT, NO_VALUE, NO_VALUE);
            guarantee(c, 3, 1, MEAN, NO_VALUE, NO_VALUE);
            guarantee(c, 6, 2, SELECT, NO_VALUE, NO_VALUE);
            guarantee(c, 9, 3, MIDPOINT, NO_VALUE, NO_VALUE);
        });
    }
}
