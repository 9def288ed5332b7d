/** Boundaries of what the document tells under WHAT IS SENT. */
final class SendingBoundaries {
    private static final long NO_VALUE = Check.NO_VALUE;
    private static final int TABLE = 1;
    private static final int SPLIT = 2;
    private static final int MIRROR = 3;
    private static final int SILENT = 4;
    private static final int DRIFT = 5;

    private SendingBoundaries() {
    }

    static void test(Sentences s) {
        s.section("WHAT IS SENT");
        receivers(s);
        fromCorrectNodes(s);
        fromFaultyNodes(s);
        table(s);
        split(s);
        mirrorAndSilent(s);
        drift(s);
        limits(s);
    }

    private static void receivers(Sentences s) {
        s.test("In round r (that is, when r rounds have been carried out) the node q, if it is"
                + " correct, receives from each node p with a link from p to q, and from itself, an"
                + " interval:", c -> {
            IntervalAgreement x = c.nodes(0, 60, "1..2", "3..4");
            x.setLink(1, 0, -1);
            c.received(x, 0, 1, false, NO_VALUE, NO_VALUE);
            c.received(x, 0, 0, true, 2, 1);
            c.received(x, 1, 0, false, 1, 1);
            x.setLink(0, 1, -1);
            c.received(x, 1, 0, false, NO_VALUE, NO_VALUE);
            c.received(x, 1, 1, false, 3, 1);
            x.setLink(0, 1, 0);
            x.setFaulty(1, SILENT, 0, 1);
            c.received(x, 1, 0, true, NO_VALUE, NO_VALUE);
            c.received(x, 1, 1, true, NO_VALUE, NO_VALUE);
        });
        s.test("from itself its value;", c -> {
            IntervalAgreement x = c.nodes(0, 60, "0", "8");
            c.received(x, 1, 1, false, 8, 1);
            x.run(1);
            x.setLink(0, 1, 3);
            x.setLink(1, 0, 3);
            // A delay holds for links alone, and a node has none to itself.
            c.received(x, 0, 1, false, 8, 1);
            c.received(x, 0, 0, false, 4, 1);
            c.received(x, 1, 1, true, 4, 1);
        });
    }

    private static void fromCorrectNodes(Sentences s) {
        s.test("from a correct node p the value that p had when max(0, r - delay) rounds had been"
                + " carried out;", c -> {
            long[] valuesOfNode1 = {16, 8, 4, 2, 1};
            IntervalAgreement x = c.nodes(0, 720720, "0", "16");
            x.setLink(1, 0, -1);
            for (int round = 0; round <= 4; round++) {
                for (int delay = 0; delay <= 3; delay++) {
                    x.setLink(1, 0, delay);
                    c.received(x, 0, 1, false, valuesOfNode1[Math.max(0, round - delay)], 1);
                }
                x.setLink(1, 0, -1);
                x.run(1);
            }
        });
    }

    private static void fromFaultyNodes(Sentences s) {
        s.test("from a faulty node p, depending on its strategy and its amount a (the delay does not"
                + " matter, and all values meant are those when r rounds have been carried out):", c -> {
            long[] dueByStrategy = {0, 7, 4 - 1, 4 + 1, 4, 5 + 1};
            for (int strategy = TABLE; strategy <= DRIFT; strategy++) {
                IntervalAgreement x = c.nodes(0, 720720, "0", "8", "5");
                x.setFaulty(2, strategy, 1, 1);
                c.lie(x, 2, 0, "7");
                x.setLink(2, 0, -1);
                x.setLink(2, 1, -1);
                x.run(1);
                c.value(x, 0, 1, 4, 1);
                c.received(x, 0, 2, false, NO_VALUE, NO_VALUE);
                for (int delay = 0; delay <= 3; delay++) {
                    x.setLink(2, 0, delay);
                    c.received(x, 0, 2, false, dueByStrategy[strategy], 1);
                    c.received(x, 0, 2, true, dueByStrategy[strategy], 1);
                }
            }
        });
    }

    private static void table(Sentences s) {
        s.test("1 table: the lie of p for q, an interval with ends from -1000 to 1000, [0, 0] at"
                + " first;", c -> {
            IntervalAgreement x = c.nodes(0, 60, "1", "2", "3");
            x.setFaulty(2, TABLE, 1000, 1);
            c.received(x, 0, 2, false, 0, 1);
            c.received(x, 1, 2, true, 0, 1);
            c.lie(x, 2, 1, "-1000..1000");
            c.received(x, 0, 2, true, 0, 1);
            c.received(x, 1, 2, false, -1000, 1);
            c.received(x, 1, 2, true, 1000, 1);
            TextTest.fault(c, 60, "60001/60", 0);
            TextTest.fault(c, 60, "0..1001", 3);
            TextTest.fault(c, 60, "-60001/60..0", 0);
        });
    }

    private static void split(Sentences s) {
        s.test("2 split: if q is even, [m - a, m - a], where m is the least low end of the values of"
                + " all correct nodes; if q is odd, [M + a, M + a], where M is their greatest high"
                + " end;", c -> {
            IntervalAgreement x = c.nodes(0, 60, "0", "0", "-3..-2", "0..7", "0", "0", "0", "0",
                    "-1000..1000", "-1000..1000");
            x.setFaulty(8, DRIFT, 0, 1);
            int[][] amountsAndDue = {{1, -7, 15}, {-1, -5, 13}, {0, -6, 14}};
            for (int[] one : amountsAndDue) {
                x.setFaulty(9, SPLIT, one[0], 2);
                for (int q = 0; q < 8; q++) {
                    long half = q % 2 == 0 ? one[1] : one[2];
                    long below = half % 2 == 0 ? 1 : 2;
                    c.received(x, q, 9, false, half * below / 2, below);
                    c.received(x, q, 9, true, half * below / 2, below);
                }
            }
            x.setCorrect(8);
            c.received(x, 8, 9, true, -1000, 1);
            c.received(x, 7, 9, false, 1000, 1);
            x.setFaulty(8, DRIFT, 0, 1);
            x.setLink(9, 0, -1);
            x.setRule(2);
            x.run(1);
            // Each median is 0 then.
            c.received(x, 2, 9, true, 0, 1);
            c.received(x, 3, 9, false, 0, 1);
        });
    }

    private static void mirrorAndSilent(Sentences s) {
        s.test("3 mirror: the value of q, both ends increased by a;", c -> {
            IntervalAgreement x = c.nodes(0, 60, "-1..2", "3..4", "9");
            int[] amounts = {-1000, -1, 0, 1, 1000};
            for (int amount : amounts) {
                x.setFaulty(2, MIRROR, amount, 1);
                c.received(x, 0, 2, false, -1 + amount, 1);
                c.received(x, 0, 2, true, 2 + amount, 1);
                c.received(x, 1, 2, true, 4 + amount, 1);
            }
            x.setFaulty(2, MIRROR, 1, 60);
            c.received(x, 0, 2, false, -59, 60);
        });
        s.test("4 silent: the value of q (which stands for what is missing);", c -> {
            IntervalAgreement x = c.nodes(1, 60, "-1..2", "3..4", "9");
            x.setFaulty(2, SILENT, 1000, 1);
            c.received(x, 0, 2, false, -1, 1);
            c.received(x, 0, 2, true, 2, 1);
            c.received(x, 1, 2, true, 4, 1);
            // It counts as one of the three intervals that node 0 receives.
            c.rest(x, 0, 0, true, 2, 1);
            x.setLink(2, 0, -1);
            c.rest(x, 0, 0, true, NO_VALUE, NO_VALUE);
        });
    }

    private static void drift(Sentences s) {
        s.test("5 drift: the input of p, both ends increased by r * a.", c -> {
            IntervalAgreement x = c.nodes(0, 60, "0", "0", "-3..4");
            x.setFaulty(2, DRIFT, -1, 60);
            c.received(x, 0, 2, false, -3, 1);
            c.received(x, 0, 2, true, 4, 1);
            x.run(1);
            c.received(x, 0, 2, false, -181, 60);
            c.received(x, 1, 2, true, 239, 60);
            x.run(59);
            c.received(x, 0, 2, false, -4, 1);
            c.received(x, 1, 2, true, 3, 1);
            x.back(60);
            c.received(x, 0, 2, true, 4, 1);
        });
    }

    private static void limits(Sentences s) {
        s.test("An end of what a faulty node sends that is less than -10000 or greater than 10000"
                + " becomes -10000 or 10000.", c -> {
            IntervalAgreement up = c.nodes(1, 60, "0", "0", "-1/60..1/60", "0..1/60");
            up.setFaulty(2, DRIFT, 1000, 1);
            up.setFaulty(3, DRIFT, 1000, 1);
            up.run(10);
            c.received(up, 0, 2, false, 599999, 60);
            c.received(up, 0, 2, true, 10000, 1);
            c.received(up, 1, 3, false, 10000, 1);
            c.received(up, 1, 3, true, 10000, 1);
            up.run(50);
            c.received(up, 1, 3, false, 10000, 1);
            IntervalAgreement down = c.nodes(1, 60, "0", "0", "-1/60..1/60", "-1/60..0");
            down.setFaulty(2, DRIFT, -1000, 1);
            down.setFaulty(3, DRIFT, -1000, 1);
            down.run(10);
            c.received(down, 0, 2, false, -10000, 1);
            c.received(down, 0, 2, true, -599999, 60);
            c.received(down, 1, 3, false, -10000, 1);
            c.received(down, 1, 3, true, -10000, 1);
            down.run(50);
            c.received(down, 1, 3, true, -10000, 1);
            mirrorAtTheLimit(c, 1);
            mirrorAtTheLimit(c, -1);
        });
    }

    /** Node 0 comes 500 nearer to the limit in each round, and what it gets is 1000 nearer. */
    private static void mirrorAtTheLimit(Check c, int sign) {
        IntervalAgreement x = Check.fresh(2, 0, 720720);
        x.setFaulty(1, MIRROR, sign * 1000, 1);
        x.run(17);
        c.received(x, 0, 1, false, sign * 9500, 1);
        x.run(1);
        c.received(x, 0, 1, false, sign * 10000, 1);
        x.run(1);
        c.value(x, 0, 19, sign * 9500, 1);
        c.received(x, 0, 1, false, sign * 10000, 1);
        c.received(x, 0, 1, true, sign * 10000, 1);
    }
}
