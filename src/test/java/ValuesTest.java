/** Promises 16, 17 and 20: value, input and mostFrequent. */
public final class ValuesTest {
    public static void main(String[] args) {
        Check c = new Check("ValuesTest");
        values(c);
        valuesRefuse(c);
        inputs(c);
        mostFrequent(c);
        mostFrequentOfIntervals(c);
        mostFrequentRefuses(c);
        c.finish();
    }

    private static void values(Check c) {
        IntervalAgreement x = Check.fresh(2, 0, 60);
        c.input(x, 0, "-1/6..3/4");
        c.input(x, 1, "-1/2..11/10");
        x.run(1);
        c.end(x, 0, 0, false, -1, 6);
        c.end(x, 0, 0, true, 3, 4);
        c.end(x, 0, 1, false, -1, 3);
        // (45 + 66) / 2 units are rounded down to 55.
        c.end(x, 0, 1, true, 11, 12);
        c.end(x, 1, 1, false, -1, 3);
    }

    private static void valuesRefuse(Check c) {
        IntervalAgreement x = Check.fresh(3, 0, 60);
        x.setFaulty(2, 4, 0, 1);
        c.value(x, 0, 1, Check.NO_VALUE, Check.NO_VALUE);
        c.value(x, 0, -1, Check.NO_VALUE, Check.NO_VALUE);
        c.value(x, 3, 0, Check.NO_VALUE, Check.NO_VALUE);
        c.value(x, -1, 0, Check.NO_VALUE, Check.NO_VALUE);
        c.value(x, 2, 0, Check.NO_VALUE, Check.NO_VALUE);
        x.run(3);
        c.value(x, 0, 3, 0, 1);
        c.value(x, 0, 4, Check.NO_VALUE, Check.NO_VALUE);
        c.value(x, 2, 3, Check.NO_VALUE, Check.NO_VALUE);
        c.value(x, 0, Integer.MAX_VALUE, Check.NO_VALUE, Check.NO_VALUE);
        c.value(x, Integer.MIN_VALUE, 0, Check.NO_VALUE, Check.NO_VALUE);
        c.same("bestRule", x.bestRule(5), 0);
        c.value(x, 0, 4, Check.NO_VALUE, Check.NO_VALUE);
    }

    private static void inputs(Check c) {
        IntervalAgreement x = Check.fresh(3, 0, 60);
        c.input(x, 1, "-7/2..9/4");
        c.input(x, 2, "5..6");
        x.setFaulty(2, 4, 0, 1);
        x.run(2);
        c.same("low", x.input(1, false, false), -7);
        c.same("low's denominator", x.input(1, false, true), 2);
        c.same("high", x.input(1, true, false), 9);
        c.same("high's denominator", x.input(1, true, true), 4);
        c.same("of a faulty node", x.input(2, true, false), 6);
        c.same("zero", x.input(0, true, false), 0);
        c.same("zero's denominator", x.input(0, true, true), 1);
        c.same("input(3)", x.input(3, false, false), Check.NO_VALUE);
        c.same("input(-1)", x.input(-1, false, true), Check.NO_VALUE);
        c.same("input(MAX)", x.input(Integer.MAX_VALUE, true, true), Check.NO_VALUE);
    }

    private static void mostFrequent(Check c) {
        IntervalAgreement x = Check.fresh(6, 0, 60);
        String[] inputs = {"3", "2", "1", "2", "1", "7"};
        for (int node = 0; node < inputs.length; node++) {
            c.input(x, node, inputs[node]);
        }
        c.same("of two pairs the one with the lower node", x.mostFrequent(0), 1);
        c.same("how many", x.mostFrequent(1), 2);
        c.input(x, 5, "1");
        c.same("three", x.mostFrequent(0), 2);
        c.same("how many then", x.mostFrequent(1), 3);
        x.setFaulty(2, 4, 0, 1);
        x.setFaulty(4, 4, 0, 1);
        c.same("faulty nodes do not count", x.mostFrequent(0), 1);
        c.same("how many without them", x.mostFrequent(1), 2);
        x.setFaulty(1, 4, 0, 1);
        c.same("all differ", x.mostFrequent(0), 0);
        c.same("one each", x.mostFrequent(1), 1);
        x.setFaulty(0, 4, 0, 1);
        c.same("the lowest is faulty", x.mostFrequent(0), 3);
    }

    private static void mostFrequentOfIntervals(Check c) {
        IntervalAgreement x = Check.fresh(5, 0, 60);
        String[] inputs = {"1..2", "1..3", "0..3", "1..4", "0..3"};
        for (int node = 0; node < inputs.length; node++) {
            c.input(x, node, inputs[node]);
        }
        c.same("both ends count", x.mostFrequent(0), 2);
        c.same("how many", x.mostFrequent(1), 2);
        x.run(1);
        c.same("after a round", x.mostFrequent(0), 0);
        c.same("how many after a round", x.mostFrequent(1), 5);
        x.back(1);
        c.same("taken back", x.mostFrequent(1), 2);
    }

    private static void mostFrequentRefuses(Check c) {
        IntervalAgreement x = Check.fresh(2, 0, 60);
        c.same("mostFrequent(2)", x.mostFrequent(2), Check.BAD_VALUE);
        c.same("mostFrequent(-1)", x.mostFrequent(-1), Check.BAD_VALUE);
        x.setFaulty(0, 1, 0, 1);
        x.setFaulty(1, 1, 0, 1);
        c.same("without a correct node", x.mostFrequent(0), Check.NONE);
        c.same("how many without", x.mostFrequent(1), Check.NONE);
        c.same("mostFrequent(2) without", x.mostFrequent(2), Check.BAD_VALUE);
    }
}
