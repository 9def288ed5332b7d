import java.util.function.IntToLongFunction;

/** What the tests share: comparing answers, typing texts, and the report at the end. */
final class Check {
    static final int UNKNOWN = -1001;
    static final int BAD_VALUE = -1002;
    static final int NOT_NOW = -1003;
    static final int FULL = -1004;
    static final int NONE = -1005;
    static final long NO_VALUE = Long.MIN_VALUE;

    private final String name;
    private String sentence = "";
    private int compared;
    private int wrong;

    Check(String name) {
        this.name = name;
    }

    /** Names the sentence of the document that the next comparisons are about. */
    void about(String words) {
        sentence = words.isEmpty() ? "" : " [" + words + "]";
    }

    int compared() {
        return compared;
    }

    void same(String what, long got, long due) {
        compared++;
        if (got != due) {
            wrong++;
            System.out.println(name + sentence + ": " + what + " answered " + got + ", due is "
                    + due);
        }
    }

    void holds(String what, boolean isTrue) {
        same(what, isTrue ? 1 : 0, 1);
    }

    /**
     * From least to greatest the answer is what is due, beyond them it is that of a refused call. An
     * answer must not change with those before it: a call that changes something needs a new object.
     */
    void range(String call, int least, int greatest, long refused, IntToLongFunction answer,
            IntToLongFunction due) {
        int[] taken = {least, Math.min(least + 1, greatest), Math.max(least, greatest - 1), greatest};
        for (int argument : taken) {
            same(call + " with " + argument, answer.applyAsLong(argument),
                    due.applyAsLong(argument));
        }
        int[] beyond = {least - 1, greatest + 1, least - 65536, greatest + 65536, Integer.MIN_VALUE,
            Integer.MAX_VALUE};
        for (int argument : beyond) {
            same(call + " with " + argument, answer.applyAsLong(argument), refused);
        }
    }

    void value(IntervalAgreement x, int node, int round, long numerator, long denominator) {
        end(x, node, round, false, numerator, denominator);
        end(x, node, round, true, numerator, denominator);
    }

    void end(IntervalAgreement x, int node, int round, boolean high, long numerator,
            long denominator) {
        String what = "value(" + node + ", " + round + ", " + high + ", ";
        same(what + "false)", x.value(node, round, high, false), numerator);
        same(what + "true)", x.value(node, round, high, true), denominator);
    }

    void inputEnd(IntervalAgreement x, int node, boolean high, long numerator, long denominator) {
        String what = "input(" + node + ", " + high + ", ";
        same(what + "false)", x.input(node, high, false), numerator);
        same(what + "true)", x.input(node, high, true), denominator);
    }

    void received(IntervalAgreement x, int receiver, int sender, boolean high, long numerator,
            long denominator) {
        String what = "received(" + receiver + ", " + sender + ", " + high + ", ";
        same(what + "false)", x.received(receiver, sender, high, false), numerator);
        same(what + "true)", x.received(receiver, sender, high, true), denominator);
    }

    void rest(IntervalAgreement x, int receiver, int k, boolean high, long numerator,
            long denominator) {
        String what = "rest(" + receiver + ", " + k + ", " + high + ", ";
        same(what + "false)", x.rest(receiver, k, high, false), numerator);
        same(what + "true)", x.rest(receiver, k, high, true), denominator);
    }

    void width(IntervalAgreement x, int round, long numerator, long denominator) {
        same("width(" + round + ", false)", x.width(round, false), numerator);
        same("width(" + round + ", true)", x.width(round, true), denominator);
    }

    void rate(IntervalAgreement x, int round, long numerator, long denominator) {
        same("rate(" + round + ", false)", x.rate(round, false), numerator);
        same("rate(" + round + ", true)", x.rate(round, true), denominator);
    }

    void guarantee(String when, IntervalAgreement x, long numerator, long denominator) {
        same("guarantee(false) " + when, x.guarantee(false), numerator);
        same("guarantee(true) " + when, x.guarantee(true), denominator);
    }

    void hull(IntervalAgreement x, boolean high, long numerator, long denominator) {
        same("hull(" + high + ", false)", x.hull(high, false), numerator);
        same("hull(" + high + ", true)", x.hull(high, true), denominator);
    }

    static void type(IntervalAgreement x, String text) {
        x.clearText();
        for (int i = 0; i < text.length(); i++) {
            x.type(text.charAt(i));
        }
    }

    void input(IntervalAgreement x, int node, String text) {
        type(x, text);
        same("readInput(" + node + ") of " + text, x.readInput(node), 1);
    }

    void lie(IntervalAgreement x, int node, int receiver, String text) {
        type(x, text);
        same("readLie(" + node + ", " + receiver + ") of " + text, x.readLie(node, receiver), 1);
    }

    static IntervalAgreement fresh(int nodes, int trim, int grid) {
        IntervalAgreement x = new IntervalAgreement();
        x.reset(nodes, trim, grid);
        return x;
    }

    /** As many nodes as inputs, which they have read; the text is empty again. */
    IntervalAgreement nodes(int trim, int grid, String... inputs) {
        IntervalAgreement x = fresh(inputs.length, trim, grid);
        for (int node = 0; node < inputs.length; node++) {
            input(x, node, inputs[node]);
        }
        x.clearText();
        return x;
    }

    void finish() {
        System.out.println(name + ": " + compared + " compared, " + wrong + " wrong");
        if (wrong != 0 || compared == 0) {
            System.exit(1);
        }
    }
}
