/** Boundaries of the promises 1 to 6: a new object, reset and texts. */
final class Promises1To6 {
    private static final int UNKNOWN = Check.UNKNOWN;
    private static final int BAD_VALUE = Check.BAD_VALUE;
    private static final long NO_VALUE = Check.NO_VALUE;

    private Promises1To6() {
    }

    static void test(Sentences s) {
        newObject(s);
        reset(s);
        resetArguments(s);
        type(s);
        clearText(s);
        readInput(s);
        readLie(s);
        readLieArguments(s);
    }

    private static void newObject(Sentences s) {
        s.section("Promise 1: A new object");
        s.test("Creates 4 correct nodes with the trim 1 and the grid 720720; all links exist.", c -> {
            IntervalAgreement x = new IntervalAgreement();
            int[] counts = {4, 1, 720720, 0, 0, 0, 12, 1};
            for (int what = 0; what < counts.length; what++) {
                c.same("count(" + what + ")", x.count(what), counts[what]);
            }
            c.range("strategy", 0, 3, UNKNOWN, node -> new IntervalAgreement().strategy(node),
                    node -> 0);
            for (int from = 0; from < 4; from++) {
                c.value(x, from, 0, 0, 1);
                for (int to = 0; to < 4; to++) {
                    c.same("setLink", x.setLink(from, to, 0), from == to ? UNKNOWN : 0);
                }
            }
            c.rest(x, 0, 1, false, 0, 1);
            c.rest(x, 0, 2, false, NO_VALUE, NO_VALUE);
            c.same("the text is empty", x.clearText(), 0);
        });
    }

    /** A setting of 10 nodes in which nothing is as it is at first, and the text is "9". */
    private static IntervalAgreement busy(Check c) {
        IntervalAgreement x = Check.fresh(10, 3, 60);
        c.input(x, 0, "5");
        c.input(x, 9, "-5..6");
        c.lie(x, 0, 9, "7");
        c.lie(x, 9, 0, "8");
        c.lie(x, 5, 4, "9");
        x.setLink(0, 9, 3);
        x.setLink(9, 0, -1);
        x.setRule(3);
        for (int node = 0; node < 10; node += 3) {
            x.setFaulty(node, 5, 1, 2);
        }
        x.run(60);
        return x;
    }

    private static void isAnew(Check c, IntervalAgreement x) {
        int[] counts = {10, 3, 60, 0, 0, 0, 90, 1};
        for (int what = 0; what < counts.length; what++) {
            c.same("count(" + what + ")", x.count(what), counts[what]);
        }
        for (int node = 0; node < 10; node++) {
            c.same("strategy(" + node + ")", x.strategy(node), 0);
            c.value(x, node, 0, 0, 1);
            c.value(x, node, 1, NO_VALUE, NO_VALUE);
        }
        c.same("setLink(0, 9)", x.setLink(0, 9, 0), 0);
        c.same("setLink(9, 0)", x.setLink(9, 0, 0), 0);
        for (int liar : new int[] {0, 5, 9}) {
            x.setFaulty(liar, 1, 0, 1);
            c.received(x, 9 - liar, liar, false, 0, 1);
            c.received(x, 9 - liar, liar, true, 0, 1);
            x.setCorrect(liar);
        }
    }

    private static void reset(Sentences s) {
        s.section("Promise 2: reset");
        s.test("Starts anew: all nodes are correct, with the inputs [0, 0]; all lies are [0, 0], all"
                + " links exist with the delay 0, the rule is mean, no round has been carried out.",
                c -> {
            IntervalAgreement same = busy(c);
            same.reset(10, 3, 60);
            isAnew(c, same);
            IntervalAgreement fewer = busy(c);
            fewer.reset(2, 0, 1);
            fewer.reset(10, 3, 60);
            isAnew(c, fewer);
        });
        s.test("The text stays.", c -> {
            IntervalAgreement x = Check.fresh(4, 1, 60);
            x.reset(2, 0, 1);
            c.same("the empty text", x.clearText(), 0);
            Check.type(x, "1..2" + "x".repeat(36));
            x.reset(2, 0, 1);
            c.same("a full text", x.type('3'), Check.FULL);
            c.same("its fault", x.readInput(0), -104);
            c.same("its length", x.clearText(), 40);
            Check.type(x, "1/2");
            x.reset(2, 0, 1);
            c.same("a text that the new grid does not hold", x.readInput(0), -100);
            x.reset(2, 0, 2);
            c.same("a text that the new grid holds", x.readInput(0), 1);
        });
    }

    private static void resetArguments(Sentences s) {
        s.test("`nodes`: n, 2 to 10", c -> c.range("reset, nodes", 2, 10, BAD_VALUE,
                nodes -> new IntervalAgreement().reset(nodes, 1, 60), nodes -> 4));
        s.test("`trim`: t, 0 to 3", c -> {
            c.range("reset, trim", 0, 3, BAD_VALUE,
                    trim -> new IntervalAgreement().reset(4, trim, 60), trim -> 4);
            // A trim that leaves nothing is none too great.
            c.same("reset(2, 3, 60)", new IntervalAgreement().reset(2, 3, 60), 4);
        });
        s.test("`grid`: g, 1 to 720720", c -> c.range("reset, grid", 1, 720720, BAD_VALUE,
                grid -> new IntervalAgreement().reset(4, 1, grid), grid -> 4));
        s.test("Returns the previous n; BAD_VALUE.", c -> {
            IntervalAgreement x = new IntervalAgreement();
            c.same("reset(2, 0, 1)", x.reset(2, 0, 1), 4);
            c.same("reset(1, 0, 1)", x.reset(1, 0, 1), BAD_VALUE);
            c.same("reset(10, 3, 720720)", x.reset(10, 3, 720720), 2);
            c.same("reset(11, 3, 720720)", x.reset(11, 3, 720720), BAD_VALUE);
            c.same("reset(10, 3, 720720)", x.reset(10, 3, 720720), 10);
            c.same("reset(2, 4, 1)", x.reset(2, 4, 1), BAD_VALUE);
            c.same("reset(2, 0, 0)", x.reset(2, 0, 0), BAD_VALUE);
            c.same("reset(3, 0, 1)", x.reset(3, 0, 1), 10);
        });
    }

    private static void type(Sentences s) {
        s.section("Promise 3: type");
        s.noBoundary("---- texts", "Appends a character to the text.");
        s.test("`character`: any character", c -> {
            char[] odd = {0, 1, '\n', ' ', 127, 128, 255, 256, 0xd800, 0xffff};
            for (char one : odd) {
                IntervalAgreement x = new IntervalAgreement();
                c.same("type of " + (int) one, x.type(one), 1);
                c.same("then of 1", x.type('1'), 2);
                c.same("the fault of it", x.readInput(0), -100);
                c.same("the length of it", x.clearText(), 2);
            }
        });
        s.test("Returns the length of the text then; FULL if it has 40 characters.", c -> {
            IntervalAgreement x = new IntervalAgreement();
            for (int length = 1; length <= 40; length++) {
                c.same("type", x.type('1'), length);
            }
            c.same("the 41st", x.type('1'), Check.FULL);
            c.same("the 42nd", x.type('1'), Check.FULL);
            c.same("clearText", x.clearText(), 40);
            c.same("type then", x.type('1'), 1);
        });
    }

    private static void clearText(Sentences s) {
        s.section("Promise 4: clearText");
        s.test("Empties the text.", c -> {
            IntervalAgreement x = new IntervalAgreement();
            Check.type(x, "12");
            x.clearText();
            c.same("the fault of nothing", x.readInput(0), -100);
            x.type('3');
            c.same("readInput", x.readInput(0), 1);
            c.value(x, 0, 0, 3, 1);
        });
        s.test("Returns the length that it had.", c -> {
            IntervalAgreement x = new IntervalAgreement();
            c.same("of nothing", x.clearText(), 0);
            for (int length : new int[] {1, 39, 40}) {
                for (int i = 0; i < length; i++) {
                    x.type('7');
                }
                c.same("of " + length, x.clearText(), length);
                c.same("of nothing again", x.clearText(), 0);
            }
            for (int i = 0; i < 41; i++) {
                x.type('7');
            }
            c.same("of one more than fits", x.clearText(), 40);
        });
    }

    private static IntervalAgreement typed(int nodes, String text) {
        IntervalAgreement x = Check.fresh(nodes, 1, 60);
        Check.type(x, text);
        return x;
    }

    private static void readInput(Sentences s) {
        s.section("Promise 5: readInput");
        s.test("Makes the interval in the text, which stays, the input of a node (and its value, if it"
                + " is correct).", c -> {
            IntervalAgreement x = typed(2, "1/2..3");
            x.setFaulty(1, 4, 0, 1);
            c.same("readInput(0)", x.readInput(0), 1);
            c.same("readInput(1), of the text that stays", x.readInput(1), 1);
            for (int node = 0; node < 2; node++) {
                c.inputEnd(x, node, false, 1, 2);
                c.inputEnd(x, node, true, 3, 1);
            }
            c.end(x, 0, 0, false, 1, 2);
            c.value(x, 1, 0, NO_VALUE, NO_VALUE);
            x.setCorrect(1);
            c.end(x, 1, 0, true, 3, 1);
            c.same("the text stays", x.clearText(), 6);
        });
        s.test(Sentences.NODE, c -> {
            c.range("readInput", 0, 1, UNKNOWN, node -> typed(2, "1").readInput(node), node -> 1);
            c.range("readInput", 0, 9, UNKNOWN, node -> typed(10, "1").readInput(node), node -> 1);
        });
        s.test("Returns 1; UNKNOWN; NOT_NOW if r is not 0; -100 minus the fault of the text if it has"
                + " one.", c -> {
            IntervalAgreement x = typed(2, "1..2");
            c.same("at first", x.readInput(0), 1);
            x.run(1);
            c.same("after a round", x.readInput(0), Check.NOT_NOW);
            x.run(59);
            c.same("after 60 rounds", x.readInput(0), Check.NOT_NOW);
            c.same("of no node", x.readInput(2), UNKNOWN);
            x.back(59);
            c.same("after one round less than all was taken back", x.readInput(0), Check.NOT_NOW);
            x.back(1);
            c.same("when all is taken back", x.readInput(0), 1);
            c.same("fault 0", typed(2, "").readInput(0), -100);
            c.same("fault 1", typed(2, "1x").readInput(0), -101);
            String longest = "-000001/000001..-000001/000001";
            c.same("no fault", typed(2, longest).readInput(0), 1);
            c.same("the last fault there is", typed(2, longest + "0").readInput(0), -130);
            c.same("a fault in a full text", typed(2, longest + "0".repeat(10)).readInput(0), -130);
        });
    }

    private static void readLie(Sentences s) {
        s.section("Promise 6: readLie");
        s.test("Makes the interval in the text, which stays, the lie of a node for a receiver (whether"
                + " the node is faulty or not).", c -> {
            IntervalAgreement x = typed(3, "1/2..3");
            x.setFaulty(2, 1, 0, 1);
            c.same("of a faulty node", x.readLie(2, 0), 1);
            c.received(x, 0, 2, false, 1, 2);
            c.received(x, 0, 2, true, 3, 1);
            c.received(x, 1, 2, true, 0, 1);
            c.same("of a correct node", x.readLie(1, 0), 1);
            c.received(x, 0, 1, true, 0, 1);
            x.setFaulty(1, 1, 0, 1);
            c.received(x, 0, 1, true, 3, 1);
            c.same("the text stays", x.clearText(), 6);
        });
    }

    private static void readLieArguments(Sentences s) {
        s.test(Sentences.NODE, c -> {
            c.range("readLie of", 0, 1, UNKNOWN, node -> typed(3, "1").readLie(node, 2), node -> 1);
            c.range("readLie of", 1, 9, UNKNOWN, node -> typed(10, "1").readLie(node, 0), node -> 1);
        });
        s.test("`receiver`: another node", c -> {
            c.range("readLie for", 0, 1, UNKNOWN, node -> typed(3, "1").readLie(2, node), node -> 1);
            c.range("readLie for", 1, 9, UNKNOWN, node -> typed(10, "1").readLie(0, node), node -> 1);
            for (int node = -1; node <= 10; node++) {
                c.same("for itself", typed(10, "1").readLie(node, node), UNKNOWN);
            }
        });
        s.test("Returns 1; UNKNOWN; -100 minus the fault of the text if it has one.", c -> {
            IntervalAgreement x = typed(3, "-5..-4");
            x.setFaulty(2, 1, 0, 1);
            x.run(60);
            c.same("after 60 rounds, too", x.readLie(2, 1), 1);
            c.received(x, 1, 2, false, -5, 1);
            c.same("of no node", x.readLie(3, 1), UNKNOWN);
            c.same("fault 0", typed(3, "").readLie(0, 1), -100);
            c.same("fault 4", typed(3, "-5..-46").readLie(0, 1), -104);
            c.same("the last fault there is",
                    typed(3, "-000001/000001..-000001/000001" + "0".repeat(10)).readLie(0, 1), -130);
            c.same("of no node, with a fault", typed(3, "x").readLie(0, 3), UNKNOWN);
        });
    }
}
