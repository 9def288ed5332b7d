import java.util.Arrays;

/** Calls that answer an error or NONE, and calls that only look, change nothing. */
public final class ErrorsTest {
    private static final int[] EXTREME = {Integer.MIN_VALUE, Integer.MIN_VALUE + 1, -100, -2, -1, 61,
        1001, 720721, 214748365, -214748364, Integer.MAX_VALUE};

    public static void main(String[] args) {
        Check c = new Check("ErrorsTest");
        for (int rounds = 0; rounds <= 60; rounds += 20) {
            extremeArguments(c, rounds);
            looking(c, rounds);
        }
        noneChangesNothing(c);
        c.finish();
    }

    private static IntervalAgreement setting(Check c, int rounds) {
        IntervalAgreement x = Check.fresh(4, 1, 60);
        c.input(x, 0, "1..2");
        c.input(x, 1, "-4..9/2");
        c.input(x, 2, "7");
        c.lie(x, 3, 1, "5");
        x.setFaulty(3, 1, 1, 2);
        x.setLink(0, 1, 2);
        x.setLink(1, 2, -1);
        x.setRule(1);
        if (rounds > 0) {
            x.run(rounds);
        }
        Check.type(x, "8");
        return x;
    }

    /** All that can be seen without a change, but for the text. */
    private static long[] seen(IntervalAgreement x) {
        long[] all = new long[2000];
        int k = 0;
        for (int what = 0; what < 8; what++) {
            all[k++] = x.count(what);
        }
        for (int node = 0; node < 4; node++) {
            all[k++] = x.strategy(node);
            for (int bits = 0; bits < 4; bits++) {
                boolean high = bits > 1;
                boolean below = bits % 2 == 1;
                all[k++] = x.input(node, high, below);
                for (int other = 0; other < 4; other++) {
                    all[k++] = x.received(node, other, high, below);
                    all[k++] = x.rest(node, other, high, below);
                }
                for (int round = 0; round <= 61; round++) {
                    all[k++] = x.value(node, round, high, below);
                }
            }
        }
        return Arrays.copyOf(all, k);
    }

    private static void unchanged(Check c, String call, IntervalAgreement x, long[] before) {
        c.holds("nothing changed by " + call, Arrays.equals(before, seen(x)));
    }

    private static void extremeArguments(Check c, int rounds) {
        for (int odd : EXTREME) {
            IntervalAgreement x = setting(c, rounds);
            long[] before = seen(x);
            String with = " with " + odd;
            c.same("reset" + with, x.reset(odd, 1, 1), Check.BAD_VALUE);
            c.same("reset" + with, x.reset(4, odd, 1), Check.BAD_VALUE);
            c.same("readInput" + with, x.readInput(odd), Check.UNKNOWN);
            c.same("readLie" + with, x.readLie(odd, 1), Check.UNKNOWN);
            c.same("readLie" + with, x.readLie(1, odd), Check.UNKNOWN);
            c.same("readLie of both" + with, x.readLie(odd, odd), Check.UNKNOWN);
            c.same("setFaulty" + with, x.setFaulty(odd, 1, 1, 1), Check.UNKNOWN);
            c.same("setFaulty" + with, x.setFaulty(1, odd, 1, 1), Check.BAD_VALUE);
            c.same("setCorrect" + with, x.setCorrect(odd), Check.UNKNOWN);
            c.same("setLink" + with, x.setLink(odd, 1, 1), Check.UNKNOWN);
            c.same("setLink" + with, x.setLink(1, odd, 1), Check.UNKNOWN);
            c.same("setRule" + with, x.setRule(odd), Check.BAD_VALUE);
            c.same("count" + with, x.count(odd), Check.BAD_VALUE);
            c.same("strategy" + with, x.strategy(odd), Check.UNKNOWN);
            c.same("run" + with, x.run(odd), Check.BAD_VALUE);
            c.same("runTo" + with, x.runTo(1, 1, odd), Check.BAD_VALUE);
            c.same("back" + with, x.back(odd), Check.BAD_VALUE);
            c.same("roundsTo" + with, x.roundsTo(1, 1, odd), Check.BAD_VALUE);
            c.same("worstStrategy" + with, x.worstStrategy(odd, 1), Check.UNKNOWN);
            c.same("worstStrategy" + with, x.worstStrategy(3, odd), Check.BAD_VALUE);
            c.same("bestRule" + with, x.bestRule(odd), Check.BAD_VALUE);
            longAnswers(c, x, odd);
            unchanged(c, "the calls" + with, x, before);
            c.same("text", x.clearText(), 1);
        }
    }

    private static void longAnswers(Check c, IntervalAgreement x, int odd) {
        String with = " with " + odd;
        c.same("value" + with, x.value(odd, 0, true, false), Check.NO_VALUE);
        c.same("value" + with, x.value(0, odd, true, false), Check.NO_VALUE);
        c.same("input" + with, x.input(odd, true, false), Check.NO_VALUE);
        c.same("received" + with, x.received(odd, 0, true, false), Check.NO_VALUE);
        c.same("received" + with, x.received(0, odd, true, false), Check.NO_VALUE);
        c.same("received by itself" + with, x.received(odd, odd, true, false), Check.NO_VALUE);
        c.same("rest" + with, x.rest(odd, 0, true, false), Check.NO_VALUE);
        c.same("rest" + with, x.rest(0, odd, true, false), Check.NO_VALUE);
        c.same("mostFrequent" + with, x.mostFrequent(odd), Check.BAD_VALUE);
        c.same("width" + with, x.width(odd, true), Check.NO_VALUE);
        c.same("rate" + with, x.rate(odd, true), Check.NO_VALUE);
    }

    private static void looking(Check c, int rounds) {
        IntervalAgreement x = setting(c, rounds);
        long[] before = seen(x);
        int fits = rounds == 60 ? Check.FULL : 1;
        c.holds("worstStrategy", x.worstStrategy(3, 10) >= 1 == (fits == 1));
        c.holds("bestRule", x.bestRule(10) >= 0 == (fits == 1));
        x.roundsTo(0, 1, 60);
        x.roundsTo(1, 2, 3);
        x.guarantee(true);
        x.hull(true, true);
        x.outside();
        x.mostFrequent(1);
        x.rate(1, true);
        x.width(0, true);
        unchanged(c, "looking", x, before);
        c.same("the strategy stays", x.strategy(3), 1);
        c.same("the rule stays", x.setRule(2), 1);
        c.same("a delay stays", x.setLink(0, 1, 0), 2);
        c.same("a missing link stays", x.setLink(1, 2, 0), -1);
    }

    private static void noneChangesNothing(Check c) {
        for (int rounds = 0; rounds <= 60; rounds += 15) {
            IntervalAgreement x = Check.fresh(4, 1, 60);
            c.input(x, 1, "5..8");
            c.input(x, 2, "3..80");
            for (int node = 0; node < 3; node++) {
                x.setLink(3, node, -1);
                x.setLink((node + 1) % 3, node, -1);
            }
            if (rounds > 0) {
                x.run(rounds);
            }
            long[] before = seen(x);
            c.same("runTo", x.runTo(0, 1, 60), Check.NONE);
            c.same("roundsTo", x.roundsTo(0, 1, 60), Check.NONE);
            unchanged(c, "NONE", x, before);
        }
    }
}
