/** Arguments far out of range are refused and change nothing, and calls that look change nothing. */
public final class ErrorsTest {
    private static final int[] EXTREME = {Integer.MIN_VALUE, Integer.MIN_VALUE + 1, -100, -2, -1, 61,
        1001, 720721, 214748365, -214748364, Integer.MAX_VALUE};

    public static void main(String[] args) {
        Check c = new Check("ErrorsTest");
        for (int rounds = 0; rounds <= 60; rounds += 20) {
            for (int odd : EXTREME) {
                Twins.alike(c, "calls with " + odd, rounds, x -> {
                    refused(c, x, odd);
                    noLongAnswer(c, x, odd);
                });
            }
            Twins.alike(c, "looking", rounds, ErrorsTest::look);
        }
        c.finish();
    }

    private static void refused(Check c, IntervalAgreement x, int odd) {
        String with = " with " + odd;
        c.same("reset" + with, x.reset(odd, 1, 1), Check.BAD_VALUE);
        c.same("reset" + with, x.reset(4, odd, 1), Check.BAD_VALUE);
        c.same("readInput" + with, x.readInput(odd), Check.UNKNOWN);
        c.same("readLie" + with, x.readLie(odd, 1), Check.UNKNOWN);
        c.same("readLie" + with, x.readLie(1, odd), Check.UNKNOWN);
        c.same("readLie of both" + with, x.readLie(odd, odd), Check.UNKNOWN);
        c.same("setFaulty" + with, x.setFaulty(odd, 1, 1, 1), Check.UNKNOWN);
        c.same("setFaulty" + with, x.setFaulty(1, odd, 1, 1), Check.BAD_VALUE);
        c.same("setCorrect" + with, x.setCorrect(odd), Check.UNKNOWN);
        c.same("setLink" + with, x.setLink(odd, 1, 1), Check.UNKNOWN);
        c.same("setLink" + with, x.setLink(1, odd, 1), Check.UNKNOWN);
        c.same("setRule" + with, x.setRule(odd), Check.BAD_VALUE);
        c.same("count" + with, x.count(odd), Check.BAD_VALUE);
        c.same("strategy" + with, x.strategy(odd), Check.UNKNOWN);
        c.same("run" + with, x.run(odd), Check.BAD_VALUE);
        c.same("runTo" + with, x.runTo(1, 1, odd), Check.BAD_VALUE);
        c.same("back" + with, x.back(odd), Check.BAD_VALUE);
        c.same("mostFrequent" + with, x.mostFrequent(odd), Check.BAD_VALUE);
        c.same("roundsTo" + with, x.roundsTo(1, 1, odd), Check.BAD_VALUE);
        c.same("worstStrategy" + with, x.worstStrategy(odd, 1), Check.UNKNOWN);
        c.same("worstStrategy" + with, x.worstStrategy(3, odd), Check.BAD_VALUE);
        c.same("bestRule" + with, x.bestRule(odd), Check.BAD_VALUE);
    }

    private static void noLongAnswer(Check c, IntervalAgreement x, int odd) {
        String with = " with " + odd;
        c.same("value" + with, x.value(odd, 0, true, false), Check.NO_VALUE);
        c.same("value" + with, x.value(0, odd, true, false), Check.NO_VALUE);
        c.same("input" + with, x.input(odd, true, false), Check.NO_VALUE);
        c.same("received" + with, x.received(odd, 0, true, false), Check.NO_VALUE);
        c.same("received" + with, x.received(0, odd, true, false), Check.NO_VALUE);
        c.same("received by itself" + with, x.received(odd, odd, true, false), Check.NO_VALUE);
        c.same("rest" + with, x.rest(odd, 0, true, false), Check.NO_VALUE);
        c.same("rest" + with, x.rest(0, odd, true, false), Check.NO_VALUE);
        c.same("width" + with, x.width(odd, true), Check.NO_VALUE);
        c.same("rate" + with, x.rate(odd, true), Check.NO_VALUE);
    }

    private static void look(IntervalAgreement x) {
        x.worstStrategy(3, 10);
        x.bestRule(10);
        x.roundsTo(8, 1, 60);
        x.guarantee(true);
        x.hull(true, true);
        x.outside();
        x.mostFrequent(1);
        x.count(7);
        x.rate(1, true);
        x.width(0, true);
        x.rest(0, 0, true, true);
        x.received(0, 3, true, true);
        x.value(0, 0, true, true);
        x.input(0, true, true);
        x.strategy(3);
    }
}
