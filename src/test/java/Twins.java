import java.util.ArrayList;
import java.util.List;
import java.util.function.Consumer;
import java.util.function.Function;
import java.util.function.Supplier;

/**
 * Whether a call changes anything: an object that it is called on is compared with a twin that it is
 * not called on. Every look takes new twins, since an object has 512 calls and some looks change it.
 */
final class Twins {
    private static final List<Function<IntervalAgreement, List<Long>>> LOOKS = looks();

    private Twins() {
    }

    /**
     * Nodes 0 and 1, which hear each other, node 2, which hears and reaches nobody, and node 3, which
     * is faulty: the width is never 0. The text is an interval.
     */
    static IntervalAgreement setting(Check c, int rounds) {
        IntervalAgreement x = c.nodes(1, 60, "1..2", "-4..9/2", "7", "0..1");
        c.lie(x, 3, 1, "5");
        c.lie(x, 0, 2, "6..13/2");
        x.setFaulty(3, 3, 1, 2);
        for (int other = 0; other < 4; other++) {
            x.setLink(2, other, -1);
            x.setLink(other, 2, -1);
        }
        x.setLink(0, 1, 2);
        x.setLink(1, 3, 3);
        x.setRule(1);
        if (rounds > 0) {
            x.run(rounds);
        }
        Check.type(x, "8..9");
        return x;
    }

    static void alike(Check c, String call, int rounds, Consumer<IntervalAgreement> called) {
        alike(c, call + " after " + rounds + " rounds", () -> setting(c, rounds), called);
    }

    /** The setting has at most 100 calls behind it. */
    static void alike(Check c, String call, Supplier<IntervalAgreement> setting,
            Consumer<IntervalAgreement> called) {
        for (int look = 0; look < LOOKS.size(); look++) {
            IntervalAgreement x = setting.get();
            called.accept(x);
            List<Long> seen = LOOKS.get(look).apply(x);
            List<Long> due = LOOKS.get(look).apply(setting.get());
            c.holds(call + " changes nothing (look " + look + ": " + seen + ", due is " + due + ")",
                    seen.equals(due));
        }
    }

    private static List<Function<IntervalAgreement, List<Long>>> looks() {
        List<Function<IntervalAgreement, List<Long>>> looks = new ArrayList<>();
        looks.add(Twins::numbers);
        looks.add(Twins::text);
        looks.add(Twins::links);
        looks.add(Twins::lies);
        for (int kind = 0; kind < 4; kind++) {
            boolean high = kind > 1;
            boolean denominator = kind % 2 == 1;
            looks.add(x -> values(x, high, denominator));
            looks.add(x -> sent(x, high, denominator));
        }
        return looks;
    }

    private static List<Long> numbers(IntervalAgreement x) {
        List<Long> seen = new ArrayList<>();
        for (int what = 0; what < 8; what++) {
            seen.add((long) x.count(what));
        }
        for (int node = 0; node < x.count(0); node++) {
            seen.add((long) x.strategy(node));
        }
        for (int round = 0; round <= 61; round++) {
            seen.add(x.width(round, false));
            seen.add(x.rate(round, true));
        }
        seen.add((long) x.outside());
        seen.add((long) x.mostFrequent(0));
        seen.add(x.guarantee(true));
        seen.add(x.hull(true, false));
        return seen;
    }

    private static List<Long> text(IntervalAgreement x) {
        List<Long> seen = new ArrayList<>();
        x.back(x.count(3));
        seen.add((long) x.readInput(0));
        seen.add(x.input(0, false, false));
        seen.add(x.input(0, true, true));
        seen.add((long) x.clearText());
        return seen;
    }

    private static List<Long> links(IntervalAgreement x) {
        List<Long> seen = new ArrayList<>();
        for (int from = 0; from < x.count(0); from++) {
            for (int to = 0; to < x.count(0); to++) {
                seen.add((long) x.setLink(from, to, 0));
            }
        }
        return seen;
    }

    /** The lies of every node, once it is taken back to where it may be made faulty. */
    private static List<Long> lies(IntervalAgreement x) {
        List<Long> seen = new ArrayList<>();
        x.back(x.count(3));
        for (int node = 0; node < 4; node++) {
            x.setCorrect(node);
        }
        for (int liar = 0; liar < 4; liar++) {
            x.setFaulty(liar, 1, 0, 1);
            for (int receiver = 0; receiver < 4; receiver++) {
                x.setLink(liar, receiver, 0);
                seen.add(x.received(receiver, liar, false, false));
                seen.add(x.received(receiver, liar, true, true));
            }
            x.setCorrect(liar);
        }
        return seen;
    }

    private static List<Long> values(IntervalAgreement x, boolean high, boolean denominator) {
        List<Long> seen = new ArrayList<>();
        for (int node = 0; node < 4; node++) {
            for (int round = 0; round <= 61; round++) {
                seen.add(x.value(node, round, high, denominator));
            }
        }
        return seen;
    }

    private static List<Long> sent(IntervalAgreement x, boolean high, boolean denominator) {
        List<Long> seen = new ArrayList<>();
        for (int node = 0; node < 4; node++) {
            seen.add(x.input(node, high, denominator));
            for (int other = 0; other < 4; other++) {
                seen.add(x.received(node, other, high, denominator));
                seen.add(x.rest(node, other, high, denominator));
            }
        }
        return seen;
    }
}
