/** Boundaries of the promises 16 to 20: value, input, received, rest and mostFrequent. */
final class Promises16To20 {
    private static final long NO_VALUE = Check.NO_VALUE;

    private Promises16To20() {
    }

    static void test(Sentences s) {
        value(s);
        input(s);
        received(s);
        rest(s);
        restAnswers(s);
        mostFrequent(s);
        mostFrequentArguments(s);
    }

    private static void value(Sentences s) {
        s.section("Promise 16: value");
        s.noBoundary("---- values", Sentences.HIGH, Sentences.DENOMINATOR);
        s.test(Sentences.NODE, c -> {
            for (int nodes : new int[] {2, 10}) {
                c.range("value of", 0, nodes - 1, NO_VALUE,
                        node -> Check.fresh(nodes, 0, 60).value(node, 0, true, true), node -> 1);
            }
        });
        s.test("`round`: 0 to r: after so many rounds", c -> {
            long[] values = {16, 8, 4, 2, 1};
            IntervalAgreement x = Promises13To15.halvedAfter(c, 0);
            for (int r = 0; r <= 4; r++) {
                c.value(x, 1, -1, NO_VALUE, NO_VALUE);
                for (int round = 0; round <= 5; round++) {
                    boolean there = round <= r;
                    c.value(x, 1, round, there ? values[round] : NO_VALUE, there ? 1 : NO_VALUE);
                }
                x.run(1);
            }
            IntervalAgreement last = Promises13To15.halvedAfter(c, 60);
            c.range("value after", 0, 60, NO_VALUE, round -> last.value(1, round, false, false),
                    round -> 16);
        });
        s.test("Returns that of the value of the node; NO_VALUE, also if it is faulty.", c -> {
            IntervalAgreement x = c.nodes(0, 60, "-1/2..5", "0");
            c.end(x, 0, 0, false, -1, 2);
            c.end(x, 0, 0, true, 5, 1);
            c.value(x, 1, 0, 0, 1);
            x.setFaulty(0, 4, 0, 1);
            c.value(x, 0, 0, NO_VALUE, NO_VALUE);
            c.value(x, 2, 0, NO_VALUE, NO_VALUE);
            c.value(x, 1, 1, NO_VALUE, NO_VALUE);
            x.run(60);
            c.value(x, 0, 60, NO_VALUE, NO_VALUE);
            c.value(x, 1, 60, 0, 1);
        });
    }

    private static void input(Sentences s) {
        s.section("Promise 17: input");
        s.noBoundary(Sentences.HIGH, Sentences.DENOMINATOR);
        s.test(Sentences.NODE, c -> {
            for (int nodes : new int[] {2, 10}) {
                c.range("input of", 0, nodes - 1, NO_VALUE,
                        node -> Check.fresh(nodes, 0, 60).input(node, true, true), node -> 1);
            }
        });
        s.test("Returns that of the input of the node; NO_VALUE.", c -> {
            IntervalAgreement x = c.nodes(0, 60, "-1000..1000", "-7/2..9/4");
            x.setFaulty(1, 4, 0, 1);
            inputsStay(c, x);
            x.run(60);
            inputsStay(c, x);
        });
    }

    private static void inputsStay(Check c, IntervalAgreement x) {
        c.inputEnd(x, 0, false, -1000, 1);
        c.inputEnd(x, 0, true, 1000, 1);
        c.inputEnd(x, 1, false, -7, 2);
        c.inputEnd(x, 1, true, 9, 4);
        c.inputEnd(x, 2, true, NO_VALUE, NO_VALUE);
        c.inputEnd(x, -1, false, NO_VALUE, NO_VALUE);
    }

    private static void received(Sentences s) {
        s.section("Promise 18: received");
        s.noBoundary(Sentences.HIGH, Sentences.DENOMINATOR);
        s.test("`receiver`: a correct node", c -> {
            for (int nodes : new int[] {2, 10}) {
                c.range("received by", 0, nodes - 1, NO_VALUE,
                        node -> Check.fresh(nodes, 0, 60).received(node, 0, true, true), node -> 1);
                IntervalAgreement x = Check.fresh(nodes, 0, 60);
                x.setFaulty(nodes - 1, 4, 0, 1);
                for (int sender = 0; sender < nodes; sender++) {
                    c.received(x, nodes - 1, sender, false, NO_VALUE, NO_VALUE);
                }
            }
        });
        s.test("`sender`: a node, perhaps the same one", c -> {
            for (int nodes : new int[] {2, 10}) {
                c.range("received from", 0, nodes - 1, NO_VALUE,
                        node -> Check.fresh(nodes, 0, 60).received(0, node, true, true), node -> 1);
            }
            IntervalAgreement x = c.nodes(0, 60, "1..2", "3..4");
            for (int node = 0; node < 2; node++) {
                c.received(x, node, node, false, 1 + 2 * node, 1);
                c.received(x, node, node, true, 2 + 2 * node, 1);
            }
        });
        s.test("Returns that of what the receiver gets from the sender in the next round; NO_VALUE,"
                + " also if it gets nothing, or is faulty.", c -> {
            IntervalAgreement x = Promises13To15.halvedAfter(c, 0);
            c.received(x, 1, 0, false, 0, 1);
            c.received(x, 0, 1, false, NO_VALUE, NO_VALUE);
            c.received(x, 1, 1, false, 16, 1);
            c.received(x, 0, 2, false, NO_VALUE, NO_VALUE);
            c.received(x, 2, 0, false, NO_VALUE, NO_VALUE);
            c.received(x, 2, 2, false, NO_VALUE, NO_VALUE);
            x.run(1);
            c.received(x, 1, 1, false, 8, 1);
            x.back(1);
            x.setFaulty(0, 4, 0, 1);
            c.received(x, 1, 0, false, 16, 1);
            c.received(x, 0, 1, false, NO_VALUE, NO_VALUE);
            c.received(x, 0, 0, false, NO_VALUE, NO_VALUE);
            x.run(60);
            c.received(x, 1, 0, true, 16, 1);
        });
    }

    private static void rest(Sentences s) {
        s.section("Promise 19: rest");
        s.noBoundary("`high`: true for the high ends, false for the low ends", Sentences.DENOMINATOR);
        s.test("`receiver`: a correct node", c -> {
            for (int nodes : new int[] {3, 10}) {
                c.range("rest of", 0, nodes - 1, NO_VALUE,
                        node -> Check.fresh(nodes, 1, 60).rest(node, 0, true, true), node -> 1);
                IntervalAgreement x = Check.fresh(nodes, 1, 60);
                x.setFaulty(nodes - 1, 4, 0, 1);
                c.rest(x, nodes - 1, 0, false, NO_VALUE, NO_VALUE);
                c.rest(x, 0, 0, false, 0, 1);
            }
        });
        s.test("`k`: from 0", c -> {
            c.range("rest of 10, trim 0", 0, 9, NO_VALUE,
                    k -> Check.fresh(10, 0, 60).rest(9, k, false, true), k -> 1);
            c.range("rest of 10, trim 3", 0, 3, NO_VALUE,
                    k -> Check.fresh(10, 3, 60).rest(9, k, true, true), k -> 1);
            c.range("rest of 7, trim 3", 0, 0, NO_VALUE,
                    k -> Check.fresh(7, 3, 60).rest(0, k, true, true), k -> 1);
            c.range("rest of 2, trim 0", 0, 1, NO_VALUE,
                    k -> Check.fresh(2, 0, 60).rest(0, k, false, true), k -> 1);
        });
    }

    private static void restAnswers(Sentences s) {
        s.test("Returns that of the number x(k) of the receiver in the next round; NO_VALUE, also if it"
                + " is faulty, if it receives at most 2 * t intervals, or if there are not so many"
                + " numbers.", c -> {
            IntervalAgreement x = c.nodes(1, 60, "5..8", "0..1", "3..30", "1/2..2");
            c.rest(x, 3, 0, false, 1, 2);
            c.rest(x, 3, 1, false, 3, 1);
            c.rest(x, 3, 2, false, NO_VALUE, NO_VALUE);
            c.rest(x, 3, 0, true, 2, 1);
            c.rest(x, 3, 1, true, 8, 1);
            x.setLink(0, 3, -1);
            c.rest(x, 3, 0, true, 2, 1);
            c.rest(x, 3, 1, true, NO_VALUE, NO_VALUE);
            x.setLink(1, 3, -1);
            c.rest(x, 3, 0, true, NO_VALUE, NO_VALUE);
            c.rest(x, 0, 1, true, 8, 1);
            x.setFaulty(0, 4, 0, 1);
            c.rest(x, 0, 0, true, NO_VALUE, NO_VALUE);
            c.rest(x, 0, 1, true, NO_VALUE, NO_VALUE);
            x.run(60);
            c.rest(x, 3, 0, true, NO_VALUE, NO_VALUE);
            for (int trim = 1; trim <= 3; trim++) {
                c.rest(Check.fresh(2 * trim, trim, 60), 0, 0, false, NO_VALUE, NO_VALUE);
                c.rest(Check.fresh(2 * trim + 1, trim, 60), 0, 0, false, 0, 1);
                c.rest(Check.fresh(2 * trim + 1, trim, 60), 0, 1, false, NO_VALUE, NO_VALUE);
            }
        });
    }

    private static void mostFrequent(Check c, String when, IntervalAgreement x, int node, int many) {
        c.same("mostFrequent(0) " + when, x.mostFrequent(0), node);
        c.same("mostFrequent(1) " + when, x.mostFrequent(1), many);
    }

    private static void mostFrequent(Sentences s) {
        s.section("Promise 20: mostFrequent");
        s.test("Returns the most frequent value of correct nodes; of several, that of the node with the"
                + " lowest number.", c -> {
            mostFrequent(c, "of all the same", Check.fresh(10, 0, 60), 0, 10);
            mostFrequent(c, "of two", c.nodes(0, 60, "1", "2"), 0, 1);
            mostFrequent(c, "of two pairs", c.nodes(0, 60, "9", "2", "1", "1", "2"), 1, 2);
            mostFrequent(c, "of a pair at last", c.nodes(0, 60, "9", "2", "1", "1"), 2, 2);
            mostFrequent(c, "of low ends", c.nodes(0, 60, "1..2", "0..2", "0..2"), 1, 2);
            mostFrequent(c, "of high ends", c.nodes(0, 60, "1..2", "1..3", "1..3"), 1, 2);
            mostFrequent(c, "of equal fractions", c.nodes(0, 60, "7", "1/2", "2/4"), 1, 2);
            IntervalAgreement x = c.nodes(0, 60, "3", "3", "3", "4", "4");
            x.setFaulty(0, 4, 0, 1);
            x.setFaulty(2, 4, 0, 1);
            mostFrequent(c, "without faulty nodes", x, 3, 2);
            x.setFaulty(3, 4, 0, 1);
            mostFrequent(c, "of one each", x, 1, 1);
        });
    }

    private static void mostFrequentArguments(Sentences s) {
        s.test("`what`: 0 for the lowest number of a node that has it, 1 for how many nodes have it",
                c -> c.range("mostFrequent", 0, 1, Check.BAD_VALUE,
                        what -> new IntervalAgreement().mostFrequent(what), what -> what * 4));
        s.test("Returns the number; BAD_VALUE; NONE if there is no correct node.", c -> {
            IntervalAgreement x = Check.fresh(10, 0, 60);
            for (int node = 0; node < 9; node++) {
                x.setFaulty(node, 4, 0, 1);
            }
            mostFrequent(c, "with one correct node", x, 9, 1);
            x.setFaulty(9, 4, 0, 1);
            mostFrequent(c, "with none", x, Check.NONE, Check.NONE);
            c.same("mostFrequent(2)", x.mostFrequent(2), Check.BAD_VALUE);
            c.same("mostFrequent(-1)", x.mostFrequent(-1), Check.BAD_VALUE);
            x.run(60);
            mostFrequent(c, "with none, after 60 rounds", x, Check.NONE, Check.NONE);
        });
    }
}
