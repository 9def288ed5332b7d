import java.util.function.Supplier;
import java.util.function.ToIntFunction;

/** Boundaries of what the document tells under ERRORS and of its constants. */
final class ErrorBoundaries {
    private static final int UNKNOWN = Check.UNKNOWN;
    private static final int BAD_VALUE = Check.BAD_VALUE;
    private static final int NOT_NOW = Check.NOT_NOW;
    private static final int FULL = Check.FULL;
    private static final int NONE = Check.NONE;
    private static final long NO_VALUE = Check.NO_VALUE;

    private ErrorBoundaries() {
    }

    static void test(Sentences s) {
        s.section("ERRORS");
        s.noBoundary("Errors are reported by the constants below.", "The constants:",
                "The constructor and the methods follow, a promise each: the signature, then what it"
                        + " does.");
        order(s);
        longAnswers(s);
        noneLast(s);
        nothingChanges(s);
        unknown(s);
        badValue(s);
        notNowAndFull(s);
        noneAndNoValue(s);
    }

    private static void order(Sentences s) {
        s.test("Where several errors can apply, the order of the @return line is the order of the"
                + " checks.", c -> {
            IntervalAgreement x = Twins.setting(c, 60);
            Check.type(x, "x");
            c.same("readInput, all three", x.readInput(4), UNKNOWN);
            c.same("readInput, the last two", x.readInput(0), NOT_NOW);
            c.same("readLie, both", x.readLie(4, 0), UNKNOWN);
            c.same("readLie of the same, both", x.readLie(1, 1), UNKNOWN);
            c.same("setFaulty, all three", x.setFaulty(4, 6, 1, 7), UNKNOWN);
            c.same("setFaulty, the first two", x.setFaulty(-1, 0, 0, 0), UNKNOWN);
            c.same("setFaulty, the last two", x.setFaulty(0, 1, 1, 7), BAD_VALUE);
            c.same("setFaulty, strategy", x.setFaulty(0, 6, 0, 1), BAD_VALUE);
            c.same("setCorrect, both", x.setCorrect(4), UNKNOWN);
            c.same("setLink, both", x.setLink(0, 4, 4), UNKNOWN);
            c.same("setLink of the same, both", x.setLink(1, 1, -2), UNKNOWN);
            c.same("run, both", x.run(61), BAD_VALUE);
            c.same("runTo, both", x.runTo(0, 0, 60), BAD_VALUE);
            c.same("roundsTo, both", x.roundsTo(0, 1, 61), BAD_VALUE);
            c.same("worstStrategy, the first and others", x.worstStrategy(4, 11), UNKNOWN);
            c.same("worstStrategy, the last three", x.worstStrategy(0, 11), BAD_VALUE);
            c.same("worstStrategy, the second and the last", x.worstStrategy(3, 0), BAD_VALUE);
            c.same("worstStrategy, the last two", x.worstStrategy(0, 1), NOT_NOW);
            c.same("bestRule, both", x.bestRule(11), BAD_VALUE);
        });
    }

    private static void longAnswers(Sentences s) {
        s.test("Methods that return a long return NO_VALUE for every error, and where there is no such"
                + " thing.", c -> {
            for (int rounds = 0; rounds <= 60; rounds += 30) {
                for (int bits = 0; bits < 4; bits++) {
                    noLongAnswer(c, Twins.setting(c, rounds), rounds, bits > 1, bits % 2 == 1);
                }
            }
        });
    }

    private static void noLongAnswer(Check c, IntervalAgreement x, int r, boolean high,
            boolean below) {
        for (int node : new int[] {-1, 4, Integer.MIN_VALUE, Integer.MAX_VALUE}) {
            c.same("value of no node", x.value(node, 0, high, below), NO_VALUE);
            c.same("input of no node", x.input(node, high, below), NO_VALUE);
            c.same("received by no node", x.received(node, 0, high, below), NO_VALUE);
            c.same("received from no node", x.received(0, node, high, below), NO_VALUE);
            c.same("rest of no node", x.rest(node, 0, high, below), NO_VALUE);
        }
        for (int round : new int[] {-1, r + 1, Integer.MIN_VALUE, Integer.MAX_VALUE}) {
            c.same("value after no round", x.value(0, round, high, below), NO_VALUE);
            c.same("width after no round", x.width(round, below), NO_VALUE);
            c.same("rate of no round", x.rate(round, below), NO_VALUE);
            c.same("no number of the rest", x.rest(0, Math.max(round, 1), high, below), NO_VALUE);
        }
        c.same("rate of round 0", x.rate(0, below), NO_VALUE);
        c.same("value of a faulty node", x.value(3, 0, high, below), NO_VALUE);
        c.same("received by a faulty node", x.received(3, 0, high, below), NO_VALUE);
        c.same("received without a link", x.received(0, 2, high, below), NO_VALUE);
        c.same("rest of a faulty node", x.rest(3, 0, high, below), NO_VALUE);
        c.same("rest of too few", x.rest(2, 0, high, below), NO_VALUE);
        c.same("no guarantee", x.guarantee(below), NO_VALUE);
        IntervalAgreement faulty = Check.fresh(2, 0, 60);
        faulty.setFaulty(0, 1, 0, 1);
        faulty.setFaulty(1, 1, 0, 1);
        faulty.run(1);
        c.same("no hull", faulty.hull(high, below), NO_VALUE);
        c.same("no rate", faulty.rate(1, below), NO_VALUE);
    }

    private static void noneLast(Sentences s) {
        s.test("NONE is no error; it is returned only if no error applies.", c -> {
            IntervalAgreement x = Twins.setting(c, 60);
            c.same("runTo", x.runTo(0, 1, 60), NONE);
            c.same("runTo with an error", x.runTo(-1, 1, 60), BAD_VALUE);
            c.same("runTo with an error", x.runTo(0, 1001, 60), BAD_VALUE);
            c.same("runTo with an error", x.runTo(0, 1, -1), BAD_VALUE);
            c.same("roundsTo", x.roundsTo(0, 1, 0), NONE);
            c.same("roundsTo with an error", x.roundsTo(0, 0, 0), BAD_VALUE);
            IntervalAgreement faulty = Check.fresh(2, 0, 60);
            faulty.setFaulty(0, 1, 0, 1);
            c.same("mostFrequent, with a correct node", faulty.mostFrequent(0), 1);
            faulty.setFaulty(1, 1, 0, 1);
            c.same("mostFrequent", faulty.mostFrequent(1), NONE);
            c.same("mostFrequent with an error", faulty.mostFrequent(2), BAD_VALUE);
        });
    }

    private static void unchanged(Check c, int rounds, String name, int due,
            ToIntFunction<IntervalAgreement> call) {
        c.same(name + " after " + rounds + " rounds", call.applyAsInt(Twins.setting(c, rounds)), due);
        Twins.alike(c, name, rounds, call::applyAsInt);
    }

    private static void nothingChanges(Sentences s) {
        s.test("A call that returns an error or NONE changes nothing.", c -> {
            for (int r : new int[] {0, 5, 60}) {
                unchanged(c, r, "reset of 11", BAD_VALUE, x -> x.reset(11, 1, 60));
                unchanged(c, r, "reset with a trim of 4", BAD_VALUE, x -> x.reset(5, 4, 60));
                unchanged(c, r, "reset with a grid of 0", BAD_VALUE, x -> x.reset(5, 2, 0));
                unchanged(c, r, "readInput(4)", UNKNOWN, x -> x.readInput(4));
                unchanged(c, r, "readLie(4, 0)", UNKNOWN, x -> x.readLie(4, 0));
                unchanged(c, r, "readLie(1, 1)", UNKNOWN, x -> x.readLie(1, 1));
                unchanged(c, r, "setFaulty(4)", UNKNOWN, x -> x.setFaulty(4, 1, 0, 1));
                unchanged(c, r, "setFaulty to 6", BAD_VALUE, x -> x.setFaulty(3, 6, 1, 1));
                unchanged(c, r, "setFaulty by 1/7", BAD_VALUE, x -> x.setFaulty(3, 3, 1, 7));
                unchanged(c, r, "setCorrect(4)", UNKNOWN, x -> x.setCorrect(4));
                unchanged(c, r, "setLink(0, 4)", UNKNOWN, x -> x.setLink(0, 4, 1));
                unchanged(c, r, "setLink(1, 1)", UNKNOWN, x -> x.setLink(1, 1, -1));
                unchanged(c, r, "setLink to 4", BAD_VALUE, x -> x.setLink(0, 1, 4));
                unchanged(c, r, "setRule(4)", BAD_VALUE, x -> x.setRule(4));
                unchanged(c, r, "run(0)", BAD_VALUE, x -> x.run(0));
                unchanged(c, r, "run(61)", BAD_VALUE, x -> x.run(61));
                unchanged(c, r, "runTo with 0", BAD_VALUE, x -> x.runTo(0, 0, 60));
                unchanged(c, r, "runTo", NONE, x -> x.runTo(0, 1, 60));
                unchanged(c, r, "runTo in no round", NONE, x -> x.runTo(0, 1, 0));
                unchanged(c, r, "roundsTo", NONE, x -> x.roundsTo(0, 1, 60));
                unchanged(c, r, "back", BAD_VALUE, x -> x.back(61));
                unchanged(c, r, "back of less", BAD_VALUE, x -> x.back(-1));
                unchanged(c, r, "worstStrategy(3, 11)", BAD_VALUE, x -> x.worstStrategy(3, 11));
                unchanged(c, r, "worstStrategy(0, 1)", NOT_NOW, x -> x.worstStrategy(0, 1));
                unchanged(c, r, "bestRule(11)", BAD_VALUE, x -> x.bestRule(11));
            }
            for (int r : new int[] {1, 60}) {
                unchanged(c, r, "readInput", NOT_NOW, x -> x.readInput(0));
                unchanged(c, r, "setFaulty", NOT_NOW, x -> x.setFaulty(3, 2, 7, 1));
                unchanged(c, r, "setCorrect", NOT_NOW, x -> x.setCorrect(3));
            }
            for (int r : new int[] {56, 60}) {
                unchanged(c, r, "run", FULL, x -> x.run(5));
                unchanged(c, r, "worstStrategy", FULL, x -> x.worstStrategy(3, 5));
                unchanged(c, r, "bestRule", FULL, x -> x.bestRule(5));
            }
            faultsChangeNothing(c);
        });
    }

    private static void faultsChangeNothing(Check c) {
        for (String text : new String[] {"", "5..6x", "5..4", "5..1/7", "5.."}) {
            Supplier<IntervalAgreement> twin = () -> {
                IntervalAgreement x = Twins.setting(c, 0);
                Check.type(x, text);
                return x;
            };
            Twins.alike(c, "readInput of " + text, twin, x -> x.readInput(0));
            Twins.alike(c, "readLie of " + text, twin, x -> x.readLie(3, 1));
        }
        IntervalAgreement full = new IntervalAgreement();
        Check.type(full, "1..2" + "x".repeat(36));
        c.same("type into a full text", full.type('3'), FULL);
        c.same("its fault stays", full.readInput(0), -104);
        c.same("its length stays", full.clearText(), 40);
    }

    private static void unknown(Sentences s) {
        s.test("`UNKNOWN = -1001`: There is no such node, or both nodes are the same.", c -> {
            c.same("UNKNOWN", IntervalAgreement.UNKNOWN, -1001);
            for (int node : new int[] {-1, 4, 9, 10, Integer.MIN_VALUE, Integer.MAX_VALUE}) {
                IntervalAgreement x = Twins.setting(c, 0);
                c.same("readInput", x.readInput(node), UNKNOWN);
                c.same("readLie of", x.readLie(node, 0), UNKNOWN);
                c.same("readLie for", x.readLie(0, node), UNKNOWN);
                c.same("setFaulty", x.setFaulty(node, 1, 0, 1), UNKNOWN);
                c.same("setCorrect", x.setCorrect(node), UNKNOWN);
                c.same("setLink from", x.setLink(node, 0, 0), UNKNOWN);
                c.same("setLink to", x.setLink(0, node, 0), UNKNOWN);
                c.same("strategy", x.strategy(node), UNKNOWN);
                c.same("worstStrategy", x.worstStrategy(node, 1), UNKNOWN);
            }
            for (int node = 0; node < 4; node++) {
                IntervalAgreement x = Twins.setting(c, 0);
                c.same("readLie for the same", x.readLie(node, node), UNKNOWN);
                c.same("setLink to the same", x.setLink(node, node, 0), UNKNOWN);
                c.same("readLie for another", x.readLie(node, (node + 1) % 4), 1);
            }
        });
    }

    private static void badValue(Sentences s) {
        s.test("`BAD_VALUE = -1002`: Another argument is out of range.", c -> {
            c.same("BAD_VALUE", IntervalAgreement.BAD_VALUE, -1002);
            for (int odd : new int[] {Integer.MIN_VALUE, Integer.MAX_VALUE, -1001, 720721, 1 << 16}) {
                IntervalAgreement x = Twins.setting(c, 5);
                c.same("reset", x.reset(odd, 1, 1), BAD_VALUE);
                c.same("reset", x.reset(4, odd, 1), BAD_VALUE);
                c.same("setFaulty", x.setFaulty(3, odd, 0, 1), BAD_VALUE);
                c.same("setFaulty", x.setFaulty(3, 1, odd, 1), BAD_VALUE);
                c.same("setFaulty", x.setFaulty(3, 1, 0, odd), BAD_VALUE);
                c.same("setLink", x.setLink(0, 1, odd), BAD_VALUE);
                c.same("setRule", x.setRule(odd), BAD_VALUE);
                c.same("count", x.count(odd), BAD_VALUE);
                c.same("run", x.run(odd), BAD_VALUE);
                c.same("runTo", x.runTo(odd, 1, 1), BAD_VALUE);
                c.same("runTo", x.runTo(1, odd, 1), BAD_VALUE);
                c.same("runTo", x.runTo(1, 1, odd), BAD_VALUE);
                c.same("back", x.back(odd), BAD_VALUE);
                c.same("mostFrequent", x.mostFrequent(odd), BAD_VALUE);
                c.same("roundsTo", x.roundsTo(odd, 1, 1), BAD_VALUE);
                c.same("roundsTo", x.roundsTo(1, odd, 1), BAD_VALUE);
                c.same("roundsTo", x.roundsTo(1, 1, odd), BAD_VALUE);
                c.same("worstStrategy", x.worstStrategy(3, odd), BAD_VALUE);
                c.same("bestRule", x.bestRule(odd), BAD_VALUE);
            }
        });
    }

    private static void notNowAndFull(Sentences s) {
        s.test("`NOT_NOW = -1003`: This cannot be done now.", c -> {
            c.same("NOT_NOW", IntervalAgreement.NOT_NOW, -1003);
            for (int rounds : new int[] {1, 60}) {
                IntervalAgreement x = Twins.setting(c, rounds);
                c.same("readInput", x.readInput(0), NOT_NOW);
                c.same("setFaulty", x.setFaulty(0, 1, 0, 1), NOT_NOW);
                c.same("setCorrect", x.setCorrect(3), NOT_NOW);
                c.same("worstStrategy", x.worstStrategy(0, 1), NOT_NOW);
                x.back(rounds);
                c.same("readInput then", x.readInput(0), 1);
                c.same("setFaulty then", x.setFaulty(0, 1, 0, 1), 0);
                c.same("setCorrect then", x.setCorrect(3), 3);
                c.same("worstStrategy then", x.worstStrategy(3, 1), NOT_NOW);
            }
        });
        s.test("`FULL = -1004`: There is no more room.", c -> {
            c.same("FULL", IntervalAgreement.FULL, -1004);
            IntervalAgreement x = Twins.setting(c, 60);
            c.same("run", x.run(1), FULL);
            c.same("worstStrategy", x.worstStrategy(3, 1), FULL);
            c.same("bestRule", x.bestRule(1), FULL);
            for (int length = 5; length <= 40; length++) {
                c.same("type", x.type('8'), length);
            }
            c.same("type", x.type('8'), FULL);
            x.back(1);
            c.same("run then", x.run(1), 60);
        });
    }

    private static void noneAndNoValue(Sentences s) {
        s.test("`NONE = -1005`: There is no such thing; not an error.", c -> {
            c.same("NONE", IntervalAgreement.NONE, -1005);
            IntervalAgreement x = Twins.setting(c, 0);
            c.same("runTo", x.runTo(0, 1, 60), NONE);
            c.same("roundsTo", x.roundsTo(0, 1, 60), NONE);
            x.reset(2, 0, 60);
            x.setFaulty(0, 1, 0, 1);
            x.setFaulty(1, 1, 0, 1);
            c.same("mostFrequent", x.mostFrequent(0), NONE);
        });
        s.test("`NO_VALUE = Long.MIN_VALUE`: The error value of methods that return a long.", c -> {
            c.same("NO_VALUE", IntervalAgreement.NO_VALUE, Long.MIN_VALUE);
            IntervalAgreement x = Twins.setting(c, 0);
            c.same("value", x.value(4, 0, false, false), NO_VALUE);
            c.same("input", x.input(4, false, false), NO_VALUE);
            c.same("received", x.received(4, 0, false, false), NO_VALUE);
            c.same("rest", x.rest(4, 0, false, false), NO_VALUE);
            c.same("width", x.width(1, false), NO_VALUE);
            c.same("rate", x.rate(1, false), NO_VALUE);
            c.same("guarantee", x.guarantee(false), NO_VALUE);
        });
    }
}
