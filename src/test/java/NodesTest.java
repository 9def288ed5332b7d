/** Promises 7 to 12: faulty and correct nodes, links, the rule, count and strategy. */
public final class NodesTest {
    public static void main(String[] args) {
        Check c = new Check("NodesTest");
        setFaultyAnswers(c);
        setFaultyRefuses(c);
        setFaultyChangesTheAmount(c);
        setCorrectAnswers(c);
        liesStay(c);
        setLinkAnswers(c);
        setRuleAnswers(c);
        counts(c);
        countsOfValues(c);
        strategies(c);
        c.finish();
    }

    private static void setFaultyAnswers(Check c) {
        IntervalAgreement x = Check.fresh(3, 1, 6);
        c.same("first", x.setFaulty(2, 1, 0, 1), 0);
        for (int strategy = 2; strategy <= 5; strategy++) {
            c.same("change", x.setFaulty(2, strategy, 1, 2), strategy - 1);
            c.same("strategy", x.strategy(2), strategy);
        }
        c.same("least amount", x.setFaulty(2, 4, -1000, 1), 5);
        c.same("greatest amount", x.setFaulty(2, 4, 1000, 1), 4);
        c.same("greatest denominator", x.setFaulty(2, 4, 500, 1000), 4);
        c.same("reducible", x.setFaulty(2, 4, 2, 4), 4);
        c.same("negative", x.setFaulty(2, 4, -5, 6), 4);
        c.same("another node", x.setFaulty(0, 3, 0, 999), 0);
    }

    private static void setFaultyRefuses(Check c) {
        IntervalAgreement x = Check.fresh(3, 1, 6);
        c.same("node 3", x.setFaulty(3, 9, 0, 0), Check.UNKNOWN);
        c.same("node -1", x.setFaulty(-1, 1, 0, 1), Check.UNKNOWN);
        c.same("strategy 0", x.setFaulty(1, 0, 0, 1), Check.BAD_VALUE);
        c.same("strategy 6", x.setFaulty(1, 6, 0, 1), Check.BAD_VALUE);
        c.same("numerator 1001", x.setFaulty(1, 1, 1001, 1), Check.BAD_VALUE);
        c.same("numerator 1001 / 1001", x.setFaulty(1, 1, 1001, 1001), Check.BAD_VALUE);
        c.same("numerator -1001", x.setFaulty(1, 1, -1001, 1), Check.BAD_VALUE);
        c.same("denominator 0", x.setFaulty(1, 1, 1, 0), Check.BAD_VALUE);
        c.same("denominator -1", x.setFaulty(1, 1, 1, -1), Check.BAD_VALUE);
        c.same("denominator 1001", x.setFaulty(1, 1, 0, 1001), Check.BAD_VALUE);
        c.same("not on the grid", x.setFaulty(1, 1, 1, 4), Check.BAD_VALUE);
        c.same("not on the grid, negative", x.setFaulty(1, 1, -1, 4), Check.BAD_VALUE);
        c.same("nothing changed", x.count(4), 0);
        x.run(1);
        c.same("node 3 later", x.setFaulty(3, 1, 0, 1), Check.UNKNOWN);
        c.same("strategy 6 later", x.setFaulty(1, 6, 0, 1), Check.BAD_VALUE);
        c.same("not on the grid later", x.setFaulty(1, 1, 1, 4), Check.BAD_VALUE);
        c.same("later", x.setFaulty(1, 1, 0, 1), Check.NOT_NOW);
        c.same("nothing changed later", x.strategy(1), 0);
        x.back(1);
        c.same("back again", x.setFaulty(1, 1, 0, 1), 0);
    }

    private static void setFaultyChangesTheAmount(Check c) {
        IntervalAgreement x = Check.fresh(3, 1, 720720);
        c.same("setFaulty", x.setFaulty(2, 3, 1, 2), 0);
        c.received(x, 0, 2, false, 1, 2);
        c.same("setFaulty", x.setFaulty(2, 3, -5, 7), 3);
        c.received(x, 0, 2, false, -5, 7);
        c.same("refused", x.setFaulty(2, 3, 1, 17), Check.BAD_VALUE);
        c.received(x, 0, 2, true, -5, 7);
    }

    private static void setCorrectAnswers(Check c) {
        IntervalAgreement x = Check.fresh(3, 1, 6);
        c.input(x, 1, "2..3");
        c.same("setFaulty", x.setFaulty(1, 5, 1, 1), 0);
        c.same("setCorrect", x.setCorrect(1), 5);
        c.same("setCorrect again", x.setCorrect(1), 0);
        c.same("strategy", x.strategy(1), 0);
        c.end(x, 1, 0, false, 2, 1);
        c.end(x, 1, 0, true, 3, 1);
        c.same("setCorrect(3)", x.setCorrect(3), Check.UNKNOWN);
        c.same("setCorrect(-1)", x.setCorrect(-1), Check.UNKNOWN);
        x.setFaulty(0, 2, 1, 1);
        x.run(1);
        c.same("setCorrect(3) later", x.setCorrect(3), Check.UNKNOWN);
        c.same("setCorrect(0) later", x.setCorrect(0), Check.NOT_NOW);
        c.same("setCorrect(1) later", x.setCorrect(1), Check.NOT_NOW);
        c.same("strategy", x.strategy(0), 2);
    }

    private static void liesStay(Check c) {
        IntervalAgreement x = Check.fresh(3, 1, 6);
        c.lie(x, 1, 0, "5/6");
        x.setFaulty(1, 2, 1, 1);
        x.setCorrect(1);
        x.setFaulty(1, 1, 1, 1);
        c.received(x, 0, 1, false, 5, 6);
    }

    private static void setLinkAnswers(Check c) {
        IntervalAgreement x = Check.fresh(3, 1, 6);
        c.same("first", x.setLink(0, 1, 3), 0);
        c.same("cut", x.setLink(0, 1, -1), 3);
        c.same("there again", x.setLink(0, 1, 2), -1);
        c.same("the other way", x.setLink(1, 0, 1), 0);
        c.same("as it was", x.setLink(0, 1, 2), 2);
        c.same("delay 4", x.setLink(0, 1, 4), Check.BAD_VALUE);
        c.same("delay -2", x.setLink(0, 1, -2), Check.BAD_VALUE);
        c.same("from 3", x.setLink(3, 1, 9), Check.UNKNOWN);
        c.same("to 3", x.setLink(1, 3, 9), Check.UNKNOWN);
        c.same("from -1", x.setLink(-1, 1, 0), Check.UNKNOWN);
        c.same("to -1", x.setLink(1, -1, 0), Check.UNKNOWN);
        c.same("the same", x.setLink(1, 1, 9), Check.UNKNOWN);
        c.same("nothing changed", x.setLink(0, 1, 0), 2);
        x.run(3);
        c.same("later", x.setLink(0, 1, 1), 0);
        x.back(2);
        c.same("back leaves it", x.setLink(0, 1, 1), 1);
    }

    private static void setRuleAnswers(Check c) {
        IntervalAgreement x = new IntervalAgreement();
        c.same("setRule(3)", x.setRule(3), 0);
        c.same("setRule(1)", x.setRule(1), 3);
        c.same("setRule(2)", x.setRule(2), 1);
        c.same("setRule(4)", x.setRule(4), Check.BAD_VALUE);
        c.same("setRule(-1)", x.setRule(-1), Check.BAD_VALUE);
        c.same("rule", x.count(5), 2);
        x.run(3);
        c.same("setRule(0) later", x.setRule(0), 2);
        x.back(3);
        c.same("back leaves it", x.count(5), 0);
    }

    private static void counts(Check c) {
        IntervalAgreement x = Check.fresh(6, 2, 30);
        c.same("count(-1)", x.count(-1), Check.BAD_VALUE);
        c.same("count(8)", x.count(8), Check.BAD_VALUE);
        c.same("count(MIN)", x.count(Integer.MIN_VALUE), Check.BAD_VALUE);
        x.setFaulty(1, 1, 0, 1);
        x.setFaulty(5, 5, 0, 1);
        x.setLink(0, 1, -1);
        x.setLink(1, 5, -1);
        x.setLink(2, 3, 3);
        x.setRule(3);
        x.run(9);
        c.same("n", x.count(0), 6);
        c.same("t", x.count(1), 2);
        c.same("g", x.count(2), 30);
        c.same("r", x.count(3), 9);
        c.same("faulty", x.count(4), 2);
        c.same("rule", x.count(5), 3);
        c.same("links", x.count(6), 28);
        c.same("values", x.count(7), 1);
    }

    private static void countsOfValues(Check c) {
        IntervalAgreement x = Check.fresh(5, 0, 6);
        c.input(x, 0, "1..2");
        c.input(x, 1, "1..3");
        c.input(x, 2, "0..2");
        c.input(x, 3, "1..2");
        c.input(x, 4, "7");
        c.same("values", x.count(7), 4);
        x.setFaulty(4, 1, 0, 1);
        c.same("without a faulty one", x.count(7), 3);
        x.setFaulty(0, 4, 0, 1);
        c.same("a value of two", x.count(7), 3);
        for (int node = 1; node < 4; node++) {
            x.setFaulty(node, 4, 0, 1);
        }
        c.same("without any", x.count(7), 0);
        c.same("all faulty", x.count(4), 5);
        x.reset(5, 0, 6);
        c.input(x, 3, "5");
        c.same("two values", x.count(7), 2);
        x.run(1);
        c.same("after a round", x.count(7), 1);
        x.back(1);
        c.same("the round taken back", x.count(7), 2);
    }

    private static void strategies(Check c) {
        IntervalAgreement x = Check.fresh(2, 0, 6);
        c.same("strategy(-1)", x.strategy(-1), Check.UNKNOWN);
        c.same("strategy(2)", x.strategy(2), Check.UNKNOWN);
        c.same("strategy(1)", x.strategy(1), 0);
        x.setFaulty(1, 4, 0, 1);
        c.same("strategy(1) then", x.strategy(1), 4);
        c.same("strategy(0) then", x.strategy(0), 0);
    }
}
