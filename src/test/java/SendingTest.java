/** Promise 18, and what is sent: the five strategies, delays and missing links. */
public final class SendingTest {
    public static void main(String[] args) {
        Check c = new Check("SendingTest");
        fromCorrectNodes(c);
        table(c);
        split(c);
        mirrorAndSilent(c);
        drift(c);
        cutToTheGreatest(c);
        delays(c);
        faultyNodesHaveNoDelay(c);
        refused(c);
        c.finish();
    }

    private static IntervalAgreement fiveNodes(Check c) {
        IntervalAgreement x = Check.fresh(5, 0, 60);
        c.input(x, 0, "1..2");
        c.input(x, 1, "-3..1/2");
        c.input(x, 2, "4..5");
        c.input(x, 3, "-50..50");
        c.input(x, 4, "-5..6");
        x.setFaulty(3, 1, 7, 1);
        return x;
    }

    private static void fromCorrectNodes(Check c) {
        IntervalAgreement x = fiveNodes(c);
        c.received(x, 0, 0, false, 1, 1);
        c.received(x, 0, 0, true, 2, 1);
        c.received(x, 0, 1, false, -3, 1);
        c.received(x, 0, 1, true, 1, 2);
        c.received(x, 1, 0, true, 2, 1);
        c.received(x, 4, 2, false, 4, 1);
    }

    private static void table(Check c) {
        IntervalAgreement x = fiveNodes(c);
        c.lie(x, 3, 0, "7..8");
        c.lie(x, 3, 1, "-1000..1000");
        c.lie(x, 0, 3, "77");
        c.received(x, 0, 3, false, 7, 1);
        c.received(x, 0, 3, true, 8, 1);
        c.received(x, 1, 3, false, -1000, 1);
        c.received(x, 1, 3, true, 1000, 1);
        c.received(x, 2, 3, false, 0, 1);
        c.received(x, 2, 3, true, 0, 1);
    }

    private static void split(Check c) {
        IntervalAgreement x = fiveNodes(c);
        x.setFaulty(4, 2, 1, 2);
        for (int high = 0; high < 2; high++) {
            c.received(x, 0, 4, high == 1, -7, 2);
            c.received(x, 2, 4, high == 1, -7, 2);
            c.received(x, 1, 4, high == 1, 11, 2);
        }
        x.setFaulty(4, 2, -1, 3);
        c.received(x, 0, 4, true, -8, 3);
        c.received(x, 1, 4, false, 14, 3);
        x.setFaulty(3, 4, 0, 1);
        x.setFaulty(4, 2, 0, 1);
        x.run(1);
        // Node 0: (1 - 3 + 4 + 1 - 3) / 5 and (2 + 1/2 + 5 + 2 - 3) / 5.
        c.end(x, 0, 1, false, 0, 1);
        c.end(x, 0, 1, true, 13, 10);
        // Node 1: (1 - 3 + 4 - 3 + 5) / 5 and (2 + 1/2 + 5 + 1/2 + 5) / 5.
        c.end(x, 1, 1, false, 4, 5);
        c.end(x, 1, 1, true, 13, 5);
        // Node 2: (1 - 3 + 4 + 4 - 3) / 5 and (2 + 1/2 + 5 + 5 - 3) / 5.
        c.end(x, 2, 1, false, 3, 5);
        c.end(x, 2, 1, true, 19, 10);
        c.received(x, 0, 4, true, 0, 1);
        c.received(x, 1, 4, false, 13, 5);
    }

    private static void mirrorAndSilent(Check c) {
        IntervalAgreement x = fiveNodes(c);
        x.setFaulty(4, 3, -1, 3);
        c.received(x, 0, 4, false, 2, 3);
        c.received(x, 0, 4, true, 5, 3);
        c.received(x, 1, 4, false, -10, 3);
        c.received(x, 1, 4, true, 1, 6);
        x.setFaulty(4, 4, 7, 1);
        c.received(x, 0, 4, false, 1, 1);
        c.received(x, 0, 4, true, 2, 1);
        c.received(x, 2, 4, false, 4, 1);
        x.setLink(4, 0, -1);
        c.received(x, 0, 4, false, Check.NO_VALUE, Check.NO_VALUE);
    }

    private static void drift(Check c) {
        IntervalAgreement x = fiveNodes(c);
        x.setFaulty(4, 5, 3, 2);
        c.received(x, 0, 4, false, -5, 1);
        c.received(x, 0, 4, true, 6, 1);
        x.run(1);
        c.received(x, 0, 4, false, -7, 2);
        c.received(x, 1, 4, true, 15, 2);
        x.run(1);
        c.received(x, 2, 4, false, -2, 1);
        c.received(x, 2, 4, true, 9, 1);
        x.back(1);
        c.received(x, 2, 4, true, 15, 2);
    }

    private static void cutToTheGreatest(Check c) {
        IntervalAgreement x = Check.fresh(4, 1, 720720);
        c.input(x, 3, "-1000..1000");
        c.input(x, 2, "-1000..1000");
        x.setFaulty(3, 5, 1000, 1);
        x.setFaulty(2, 5, -1000, 1);
        x.run(9);
        c.received(x, 0, 3, false, 8000, 1);
        c.received(x, 0, 3, true, 10000, 1);
        c.received(x, 0, 2, false, -10000, 1);
        c.received(x, 0, 2, true, -8000, 1);
        x.run(2);
        c.received(x, 0, 3, false, 10000, 1);
        c.received(x, 0, 3, true, 10000, 1);
        c.received(x, 0, 2, false, -10000, 1);
        c.received(x, 0, 2, true, -10000, 1);
        x.run(49);
        c.received(x, 1, 3, false, 10000, 1);
        c.received(x, 1, 2, true, -10000, 1);
        cutToTheGreatestOfSplitAndMirror(c);
    }

    private static void cutToTheGreatestOfSplitAndMirror(Check c) {
        for (int strategy = 2; strategy <= 3; strategy++) {
            IntervalAgreement x = Check.fresh(2, 0, 720720);
            x.setFaulty(1, strategy, strategy == 2 ? -1000 : 1000, 1);
            x.run(60);
            // Node 0 comes 500 nearer to what grows with it, in each round.
            c.value(x, 0, 17, 8500, 1);
            c.value(x, 0, 18, 9000, 1);
            c.value(x, 0, 19, 9500, 1);
            c.value(x, 0, 20, 9750, 1);
            c.value(x, 0, 21, 9875, 1);
            c.received(x, 0, 1, true, 10000, 1);
        }
    }

    private static void delays(Check c) {
        IntervalAgreement x = Check.fresh(2, 0, 720720);
        c.input(x, 1, "8");
        x.setLink(0, 1, 2);
        x.run(3);
        c.value(x, 0, 1, 4, 1);
        c.value(x, 1, 1, 4, 1);
        c.value(x, 0, 2, 4, 1);
        c.value(x, 1, 2, 2, 1);
        c.value(x, 0, 3, 3, 1);
        c.value(x, 1, 3, 1, 1);
        c.received(x, 1, 0, false, 4, 1);
        x.setLink(0, 1, 3);
        c.received(x, 1, 0, false, 0, 1);
        x.setLink(0, 1, 1);
        c.received(x, 1, 0, false, 4, 1);
        x.setLink(0, 1, 0);
        c.received(x, 1, 0, false, 3, 1);
        x.setLink(0, 1, -1);
        c.received(x, 1, 0, false, Check.NO_VALUE, Check.NO_VALUE);
        c.received(x, 1, 1, false, 1, 1);
        c.received(x, 0, 1, false, 1, 1);
    }

    private static void faultyNodesHaveNoDelay(Check c) {
        IntervalAgreement x = Check.fresh(3, 0, 720720);
        c.input(x, 1, "6");
        x.setFaulty(2, 4, 0, 1);
        x.setLink(2, 0, 3);
        x.run(1);
        c.value(x, 0, 1, 2, 1);
        c.received(x, 0, 2, false, 2, 1);
        x.back(1);
        x.setFaulty(2, 5, 1, 1);
        x.run(2);
        c.received(x, 0, 2, false, 2, 1);
    }

    private static void refused(Check c) {
        IntervalAgreement x = fiveNodes(c);
        c.received(x, 3, 0, false, Check.NO_VALUE, Check.NO_VALUE);
        c.received(x, 3, 3, false, Check.NO_VALUE, Check.NO_VALUE);
        c.received(x, 5, 0, false, Check.NO_VALUE, Check.NO_VALUE);
        c.received(x, -1, 0, false, Check.NO_VALUE, Check.NO_VALUE);
        c.received(x, 0, 5, false, Check.NO_VALUE, Check.NO_VALUE);
        c.received(x, 0, -1, false, Check.NO_VALUE, Check.NO_VALUE);
        c.received(x, 5, 5, false, Check.NO_VALUE, Check.NO_VALUE);
        c.received(x, Integer.MAX_VALUE, Integer.MIN_VALUE, true, Check.NO_VALUE, Check.NO_VALUE);
    }
}
