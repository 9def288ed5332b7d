/** Promises 1 and 2: a new object, and reset. */
public final class SetupTest {
    public static void main(String[] args) {
        Check c = new Check("SetupTest");
        newObject(c);
        resetAnswersAndSets(c);
        resetRefuses(c);
        resetStartsAnew(c);
        resetForgetsLies(c);
        c.finish();
    }

    private static void newObject(Check c) {
        IntervalAgreement x = new IntervalAgreement();
        c.same("n", x.count(0), 4);
        c.same("t", x.count(1), 1);
        c.same("g", x.count(2), 720720);
        c.same("r", x.count(3), 0);
        c.same("faulty", x.count(4), 0);
        c.same("rule", x.count(5), 0);
        c.same("links", x.count(6), 12);
        c.same("different values", x.count(7), 1);
        for (int node = 0; node < 4; node++) {
            c.same("strategy", x.strategy(node), 0);
            c.value(x, node, 0, 0, 1);
            c.same("input", x.input(node, true, false), 0);
            for (int other = 0; other < 4; other++) {
                if (other != node) {
                    c.same("delay", x.setLink(node, other, 0), 0);
                }
            }
        }
        c.same("no fifth node", x.strategy(4), Check.UNKNOWN);
        c.same("text", x.clearText(), 0);
    }

    private static void resetAnswersAndSets(Check c) {
        IntervalAgreement x = new IntervalAgreement();
        c.same("reset(2, 0, 1)", x.reset(2, 0, 1), 4);
        c.same("n", x.count(0), 2);
        c.same("t", x.count(1), 0);
        c.same("g", x.count(2), 1);
        c.same("links", x.count(6), 2);
        c.same("reset(10, 3, 720720)", x.reset(10, 3, 720720), 2);
        c.same("n", x.count(0), 10);
        c.same("t", x.count(1), 3);
        c.same("g", x.count(2), 720720);
        c.same("links", x.count(6), 90);
        c.same("reset(7, 1, 9)", x.reset(7, 1, 9), 10);
    }

    private static void resetRefuses(Check c) {
        IntervalAgreement x = Check.fresh(5, 2, 12);
        c.input(x, 3, "7/12");
        x.run(4);
        int[][] wrong = {{1, 1, 1}, {11, 1, 1}, {-5, 1, 1}, {4, -1, 1}, {4, 4, 1}, {4, 1, 0},
            {4, 1, 720721}, {4, 1, -1}, {Integer.MIN_VALUE, 1, 1}, {4, Integer.MAX_VALUE, 1},
            {4, 1, Integer.MAX_VALUE}};
        for (int[] w : wrong) {
            c.same("reset(" + w[0] + ", " + w[1] + ", " + w[2] + ")", x.reset(w[0], w[1], w[2]),
                    Check.BAD_VALUE);
        }
        c.same("n stays", x.count(0), 5);
        c.same("t stays", x.count(1), 2);
        c.same("g stays", x.count(2), 12);
        c.same("r stays", x.count(3), 4);
        c.same("input stays", x.input(3, false, true), 12);
    }

    private static void resetStartsAnew(Check c) {
        IntervalAgreement x = Check.fresh(5, 1, 60);
        c.input(x, 0, "3..5");
        c.input(x, 4, "-3");
        c.same("setFaulty", x.setFaulty(1, 5, 1, 2), 0);
        x.setLink(0, 2, 3);
        x.setLink(2, 0, -1);
        x.setRule(3);
        x.run(7);
        c.same("reset", x.reset(5, 1, 60), 5);
        c.same("r", x.count(3), 0);
        c.same("faulty", x.count(4), 0);
        c.same("rule", x.count(5), 0);
        c.same("links", x.count(6), 20);
        c.same("delay back at 0", x.setLink(0, 2, 0), 0);
        c.same("link there again", x.setLink(2, 0, 0), 0);
        c.same("different values", x.count(7), 1);
        for (int node = 0; node < 5; node++) {
            c.same("strategy", x.strategy(node), 0);
            c.value(x, node, 0, 0, 1);
        }
        c.same("text stays", x.clearText(), 2);
        c.same("no round", x.width(1, false), Check.NO_VALUE);
    }

    private static void resetForgetsLies(Check c) {
        IntervalAgreement x = Check.fresh(10, 1, 60);
        c.lie(x, 9, 0, "5");
        c.lie(x, 2, 8, "6");
        x.reset(10, 1, 60);
        x.setFaulty(9, 1, 0, 1);
        x.setFaulty(2, 1, 0, 1);
        c.received(x, 0, 9, false, 0, 1);
        c.received(x, 8, 2, true, 0, 1);
        x.reset(2, 1, 60);
        x.reset(10, 1, 60);
        c.value(x, 9, 0, 0, 1);
    }
}
