/** Long runs of calls, the same in each run of the test, compared with the model answer by answer. */
public final class ModelTest {
    private static final int RUNS = 400;
    private static final int CALLS = 512;
    private static final int CALLS_AT_LEAST_SEEN = 300;
    private static final int[] GRIDS = {1, 2, 6, 10, 60, 840, 720720, 720719};
    private static final int[] ODD = {Integer.MIN_VALUE, Integer.MAX_VALUE, -1, -2, 0, 4, 10, 11,
        60, 61, 1001, -1001, 720721, 65536, Integer.MIN_VALUE / 10, Integer.MAX_VALUE / 10 + 1};

    private final Check c;
    private final IntervalAgreement x = new IntervalAgreement();
    private final Model model = new Model();
    private final StringBuilder history = new StringBuilder();
    private long state;
    private int calls;
    private int wrong;

    private ModelTest(Check c, long seed) {
        this.c = c;
        this.state = seed * 7919 + 17;
    }

    public static void main(String[] args) {
        Check c = new Check("ModelTest");
        int seen = 0;
        for (int run = 0; run < RUNS; run++) {
            ModelTest test = new ModelTest(c, run);
            test.oneRun();
            seen += test.calls;
        }
        c.holds("calls", seen > RUNS * CALLS_AT_LEAST_SEEN);
        c.finish();
    }

    private int next(int bound) {
        state = state * 6364136223846793005L + 1442695040888963407L;
        return (int) ((state >>> 33) % bound);
    }

    private boolean oneIn(int bound) {
        return next(bound) == 0;
    }

    /** Nearly always from least to greatest. */
    private int from(int least, int greatest) {
        if (oneIn(40)) {
            return ODD[next(ODD.length)];
        }
        if (oneIn(30)) {
            return oneIn(2) ? least - 1 : greatest + 1;
        }
        return least + next(greatest - least + 1);
    }

    private int node() {
        return from(0, model.count(0) - 1);
    }

    private void same(String call, long got, long due) {
        calls++;
        if (history.length() < 100000) {
            history.append(call).append(" = ").append(due).append('\n');
        }
        c.same(call, got, due);
        if (got != due) {
            wrong++;
        }
    }

    private void oneRun() {
        if (!oneIn(8)) {
            int nodes = 2 + next(9);
            int trim = next(Math.min(4, nodes / 2 + 1));
            int grid = GRIDS[next(GRIDS.length)];
            same("reset", x.reset(nodes, trim, grid), model.reset(nodes, trim, grid));
        }
        int faulty = next(model.count(0) + 1) * next(3) / 2;
        for (int node = 0; node < model.count(0) && calls < CALLS - 60; node++) {
            typeAndRead(node);
        }
        for (int i = 0; i < faulty && i < model.count(0); i++) {
            becomeFaulty(next(model.count(0)));
        }
        while (calls < CALLS - 45 && wrong == 0) {
            oneCall();
        }
        if (wrong != 0) {
            System.out.println(history);
        }
    }

    private void typeAndRead(int node) {
        type(interval());
        same("readInput(" + node + ")", x.readInput(node), model.readInput(node));
    }

    private void becomeFaulty(int node) {
        int strategy = from(1, 5);
        int numerator = oneIn(4) ? from(-1000, 1000) : from(-9, 9);
        int denominator = oneIn(2) ? 1 : from(1, oneIn(9) ? 1000 : 6);
        same("setFaulty(" + node + ", " + strategy + ", " + numerator + ", " + denominator + ")",
                x.setFaulty(node, strategy, numerator, denominator),
                model.setFaulty(node, strategy, numerator, denominator));
    }

    private void type(String text) {
        same("clearText()", x.clearText(), model.clearText());
        for (int i = 0; i < text.length(); i++) {
            char sign = text.charAt(i);
            same("type('" + sign + "')", x.type(sign), model.type(sign));
        }
    }

    private String interval() {
        if (oneIn(60)) {
            return "1".repeat(44);
        }
        StringBuilder text = new StringBuilder(number());
        if (oneIn(2)) {
            text.append("..").append(number());
        }
        if (oneIn(6)) {
            String signs = "0123456789-/. x" + (char) 0 + (char) 233 + (char) 8364;
            text.insert(next(text.length() + 1), signs.charAt(next(signs.length())));
        }
        if (oneIn(8)) {
            text.deleteCharAt(next(text.length()));
        }
        return text.toString();
    }

    private String number() {
        StringBuilder text = new StringBuilder(oneIn(3) ? "-" : "");
        int kind = next(8);
        text.append(kind == 0 ? next(1200) : kind == 1 ? next(1500000) : next(30));
        if (oneIn(3)) {
            text.append('/').append(oneIn(9) ? next(1100000) : 1 + next(6));
        }
        return text.toString();
    }

    private void oneCall() {
        int kind = next(100);
        if (kind < 30) {
            change(next(10));
        } else if (kind < 42) {
            runs(next(5));
        } else if (kind < 90) {
            look(next(11));
        } else {
            compare(next(4));
        }
    }

    private void change(int kind) {
        int node = node();
        int other = node();
        int small = from(-1, 3);
        switch (kind) {
            case 0 -> typeAndRead(node);
            case 1, 2 -> {
                if (oneIn(2)) {
                    type(interval());
                }
                same("readLie(" + node + ", " + other + ")", x.readLie(node, other),
                        model.readLie(node, other));
            }
            case 3, 4 -> becomeFaulty(node);
            case 5 -> same("setCorrect(" + node + ")", x.setCorrect(node), model.setCorrect(node));
            case 6, 7 -> same("setLink(" + node + ", " + other + ", " + small + ")",
                    x.setLink(node, other, small), model.setLink(node, other, small));
            case 8 -> {
                int rule = from(0, 3);
                same("setRule(" + rule + ")", x.setRule(rule), model.setRule(rule));
            }
            default -> {
                if (oneIn(8)) {
                    int nodes = from(2, 10);
                    int trim = from(0, 3);
                    int grid = oneIn(3) ? from(1, 720720) : GRIDS[next(GRIDS.length)];
                    same("reset(" + nodes + ", " + trim + ", " + grid + ")",
                            x.reset(nodes, trim, grid), model.reset(nodes, trim, grid));
                }
            }
        }
    }

    private void runs(int kind) {
        int rounds = oneIn(6) ? from(1, 60) : from(1, 5);
        switch (kind) {
            case 0, 1 -> same("run(" + rounds + ")", x.run(rounds), model.run(rounds));
            case 2 -> {
                int most = oneIn(3) ? from(0, 60) : from(0, 6);
                int numerator = from(0, oneIn(4) ? 1000 : 5);
                int denominator = from(1, oneIn(4) ? 1000 : 5);
                same("runTo(" + numerator + ", " + denominator + ", " + most + ")",
                        x.runTo(numerator, denominator, most),
                        model.runTo(numerator, denominator, most));
            }
            default -> {
                int back = oneIn(3) ? model.count(3) : from(0, model.count(3));
                same("back(" + back + ")", x.back(back), model.back(back));
            }
        }
    }

    private void look(int kind) {
        int node = node();
        int other = node();
        int round = from(0, model.count(3));
        boolean high = oneIn(2);
        boolean below = oneIn(2);
        String rest = ", " + high + ", " + below + ")";
        switch (kind) {
            case 0 -> {
                int what = from(0, 7);
                same("count(" + what + ")", x.count(what), model.count(what));
            }
            case 1 -> same("strategy(" + node + ")", x.strategy(node), model.strategy(node));
            case 2 -> same("value(" + node + ", " + round + rest, x.value(node, round, high, below),
                    model.value(node, round, high, below));
            case 3 -> same("input(" + node + rest, x.input(node, high, below),
                    model.input(node, high, below));
            case 4 -> same("received(" + node + ", " + other + rest,
                    x.received(node, other, high, below), model.received(node, other, high, below));
            case 5 -> {
                int k = from(0, 9);
                same("rest(" + node + ", " + k + rest, x.rest(node, k, high, below),
                        model.rest(node, k, high, below));
            }
            case 6 -> {
                int what = from(0, 1);
                same("mostFrequent(" + what + ")", x.mostFrequent(what), model.mostFrequent(what));
            }
            case 7 -> same("width(" + round + ", " + below + ")", x.width(round, below),
                    model.width(round, below));
            case 8 -> same("rate(" + round + ", " + below + ")", x.rate(round, below),
                    model.rate(round, below));
            case 9 -> {
                same("guarantee(" + below + ")", x.guarantee(below), model.guarantee(below));
                same("hull(" + high + ", " + below + ")", x.hull(high, below),
                        model.hull(high, below));
            }
            default -> same("outside()", x.outside(), model.outside());
        }
    }

    private void compare(int kind) {
        int rounds = oneIn(3) ? from(1, 10) : from(1, 3);
        switch (kind) {
            case 0 -> {
                int most = oneIn(3) ? from(0, 60) : from(0, 6);
                int numerator = from(0, oneIn(4) ? 1000 : 5);
                int denominator = from(1, oneIn(4) ? 1000 : 5);
                same("roundsTo(" + numerator + ", " + denominator + ", " + most + ")",
                        x.roundsTo(numerator, denominator, most),
                        model.roundsTo(numerator, denominator, most));
            }
            case 1, 2 -> {
                int node = node();
                for (int tried = 0; tried < 9 && model.strategy(node) == 0; tried++) {
                    node = node();
                }
                same("worstStrategy(" + node + ", " + rounds + ")", x.worstStrategy(node, rounds),
                        model.worstStrategy(node, rounds));
            }
            default -> same("bestRule(" + rounds + ")", x.bestRule(rounds), model.bestRule(rounds));
        }
    }
}
