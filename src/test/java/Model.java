import java.math.BigInteger;
import java.util.ArrayList;
import java.util.Arrays;
import java.util.List;

/**
 * The document once more, with exact fractions, the whole history in lists and copies for trials:
 * slow, and written apart from the program, so that both can be compared.
 */
final class Model {
    /** A fraction in lowest terms. */
    record Fraction(BigInteger n, BigInteger d) implements Comparable<Fraction> {
        static final Fraction ZERO = of(0, 1);

        static Fraction of(long n, long d) {
            return of(BigInteger.valueOf(n), BigInteger.valueOf(d));
        }

        static Fraction of(BigInteger n, BigInteger d) {
            BigInteger common = n.gcd(d).multiply(BigInteger.valueOf(d.signum()));
            return new Fraction(n.divide(common), d.divide(common));
        }

        Fraction plus(Fraction o) {
            return of(n.multiply(o.d).add(o.n.multiply(d)), d.multiply(o.d));
        }

        Fraction minus(Fraction o) {
            return plus(new Fraction(o.n.negate(), o.d));
        }

        Fraction times(long factor) {
            return of(n.multiply(BigInteger.valueOf(factor)), d);
        }

        Fraction by(Fraction o) {
            return of(n.multiply(o.d), d.multiply(o.n));
        }

        boolean isOnGrid(long grid) {
            return times(grid).d.equals(BigInteger.ONE);
        }

        Fraction downTo(long grid) {
            Fraction units = times(grid);
            BigInteger[] parts = units.n.divideAndRemainder(units.d);
            BigInteger whole = parts[1].signum() < 0 ? parts[0].subtract(BigInteger.ONE) : parts[0];
            return of(whole, BigInteger.valueOf(grid));
        }

        @Override
        public int compareTo(Fraction o) {
            return n.multiply(o.d).compareTo(o.n.multiply(d));
        }
    }

    record Interval(Fraction low, Fraction high) {
        static final Interval ZERO = new Interval(Fraction.ZERO, Fraction.ZERO);

        Fraction end(boolean wantHigh) {
            return wantHigh ? high : low;
        }
    }

    private String text = "";
    private int n;
    private int t;
    private int g;
    private int rule;
    private int[] strategies;
    private Fraction[] amounts;
    private Interval[] inputs;
    private Interval[][] lies;
    private int[][] delays;
    /** One array of values for each round that has been carried out; null for a faulty node. */
    private List<Interval[]> later;

    Model() {
        startAnew(4, 1, 720720);
    }

    private Model(Model o) {
        text = o.text;
        n = o.n;
        t = o.t;
        g = o.g;
        rule = o.rule;
        strategies = o.strategies.clone();
        amounts = o.amounts.clone();
        inputs = o.inputs.clone();
        lies = new Interval[n][];
        delays = new int[n][];
        for (int p = 0; p < n; p++) {
            lies[p] = o.lies[p].clone();
            delays[p] = o.delays[p].clone();
        }
        later = new ArrayList<>(o.later);
    }

    private void startAnew(int nodes, int trim, int grid) {
        n = nodes;
        t = trim;
        g = grid;
        rule = 0;
        strategies = new int[n];
        amounts = new Fraction[n];
        inputs = new Interval[n];
        Arrays.fill(inputs, Interval.ZERO);
        lies = new Interval[n][n];
        for (Interval[] row : lies) {
            Arrays.fill(row, Interval.ZERO);
        }
        delays = new int[n][n];
        later = new ArrayList<>();
    }

    int reset(int nodes, int trim, int grid) {
        if (nodes < 2 || nodes > 10 || trim < 0 || trim > 3 || grid < 1 || grid > 720720) {
            return Check.BAD_VALUE;
        }
        int previous = n;
        startAnew(nodes, trim, grid);
        return previous;
    }

    int type(char character) {
        if (text.length() == 40) {
            return Check.FULL;
        }
        text = text + character;
        return text.length();
    }

    int clearText() {
        int previous = text.length();
        text = "";
        return previous;
    }

    private int r() {
        return later.size();
    }

    private boolean unknown(int node) {
        return node < 0 || node >= n;
    }

    /** The fault of the text, or -1; an interval found is put into found[0]. */
    private int fault(Interval[] found) {
        // 0 before the sign, 1 before the digits, 2 in the digits, 3 before the denominator,
        // 4 in the denominator, 5 behind one dot
        int state = 0;
        int start = 0;
        int digits = 0;
        Fraction first = null;
        StringBuilder whole = new StringBuilder();
        StringBuilder below = new StringBuilder();
        for (int i = 0; i <= text.length(); i++) {
            boolean isEnd = i == text.length();
            char sign = isEnd ? '\n' : text.charAt(i);
            boolean isDigit = "0123456789".indexOf(sign) >= 0;
            boolean inDigits = state == 2 || state == 4;
            if (isDigit && state != 5) {
                digits = inDigits ? digits + 1 : 1;
                state = state < 3 ? 2 : 4;
                if (digits == 7) {
                    return i;
                }
                (state == 2 ? whole : below).append(sign);
            } else if (state == 0 && sign == '-') {
                state = 1;
                whole.append(sign);
            } else if (state == 2 && sign == '/') {
                state = 3;
            } else if (inDigits) {
                Fraction number = number(whole.toString(), below.toString());
                if (number == null || first != null && number.compareTo(first) < 0) {
                    return start;
                }
                if (isEnd) {
                    found[0] = new Interval(first == null ? number : first, number);
                    return -1;
                }
                if (sign != '.' || first != null) {
                    return i;
                }
                first = number;
                state = 5;
            } else if (state == 5 && sign == '.') {
                state = 0;
                start = i + 1;
                whole.setLength(0);
                below.setLength(0);
            } else {
                return i;
            }
        }
        throw new IllegalStateException(text);
    }

    private Fraction number(String whole, String below) {
        long d = below.isEmpty() ? 1 : Long.parseLong(below);
        if (d == 0) {
            return null;
        }
        long numerator = Long.parseLong(whole.equals("-") ? "0" : whole);
        Fraction number = Fraction.of(numerator, d);
        boolean isSmall = number.compareTo(Fraction.of(1000, 1)) <= 0
                && number.compareTo(Fraction.of(-1000, 1)) >= 0;
        return isSmall && number.isOnGrid(g) ? number : null;
    }

    int readInput(int node) {
        if (unknown(node)) {
            return Check.UNKNOWN;
        }
        if (r() != 0) {
            return Check.NOT_NOW;
        }
        Interval[] found = new Interval[1];
        int fault = fault(found);
        if (fault >= 0) {
            return -100 - fault;
        }
        inputs[node] = found[0];
        return 1;
    }

    int readLie(int node, int receiver) {
        if (unknown(node) || unknown(receiver) || node == receiver) {
            return Check.UNKNOWN;
        }
        Interval[] found = new Interval[1];
        int fault = fault(found);
        if (fault >= 0) {
            return -100 - fault;
        }
        lies[node][receiver] = found[0];
        return 1;
    }

    int setFaulty(int node, int strategy, int numerator, int denominator) {
        if (unknown(node)) {
            return Check.UNKNOWN;
        }
        if (strategy < 1 || strategy > 5 || numerator < -1000 || numerator > 1000
                || denominator < 1 || denominator > 1000
                || !Fraction.of(numerator, denominator).isOnGrid(g)) {
            return Check.BAD_VALUE;
        }
        if (r() != 0) {
            return Check.NOT_NOW;
        }
        int previous = strategies[node];
        strategies[node] = strategy;
        amounts[node] = Fraction.of(numerator, denominator);
        return previous;
    }

    int setCorrect(int node) {
        if (unknown(node)) {
            return Check.UNKNOWN;
        }
        if (r() != 0) {
            return Check.NOT_NOW;
        }
        int previous = strategies[node];
        strategies[node] = 0;
        return previous;
    }

    int setLink(int from, int to, int delay) {
        if (unknown(from) || unknown(to) || from == to) {
            return Check.UNKNOWN;
        }
        if (delay < -1 || delay > 3) {
            return Check.BAD_VALUE;
        }
        int previous = delays[from][to];
        delays[from][to] = delay;
        return previous;
    }

    int setRule(int newRule) {
        if (newRule < 0 || newRule > 3) {
            return Check.BAD_VALUE;
        }
        int previous = rule;
        rule = newRule;
        return previous;
    }

    private List<Interval> correctValues(int round) {
        List<Interval> values = new ArrayList<>();
        for (int p = 0; p < n; p++) {
            if (strategies[p] == 0) {
                values.add(valueAt(p, round));
            }
        }
        return values;
    }

    private Interval valueAt(int node, int round) {
        return round <= 0 ? inputs[node] : later.get(round - 1)[node];
    }

    int count(int what) {
        int links = 0;
        int faulty = 0;
        for (int p = 0; p < n; p++) {
            faulty += strategies[p] != 0 ? 1 : 0;
            for (int q = 0; q < n; q++) {
                links += p != q && delays[p][q] >= 0 ? 1 : 0;
            }
        }
        int[] answers = {n, t, g, r(), faulty, rule, links,
            (int) correctValues(r()).stream().distinct().count()};
        return what < 0 || what > 7 ? Check.BAD_VALUE : answers[what];
    }

    int strategy(int node) {
        return unknown(node) ? Check.UNKNOWN : strategies[node];
    }

    private Fraction least(int round, boolean high) {
        return correctValues(round).stream().map(v -> v.end(high)).min(Fraction::compareTo)
                .orElse(Fraction.ZERO);
    }

    private Fraction greatest(int round, boolean high) {
        return correctValues(round).stream().map(v -> v.end(high)).max(Fraction::compareTo)
                .orElse(Fraction.ZERO);
    }

    /** What q gets from p, null for nothing. */
    private Interval sent(int p, int q) {
        if (p == q) {
            return valueAt(q, r());
        }
        if (delays[p][q] < 0) {
            return null;
        }
        if (strategies[p] == 0) {
            return valueAt(p, Math.max(0, r() - delays[p][q]));
        }
        Interval own = valueAt(q, r());
        Fraction a = amounts[p];
        Fraction even = least(r(), false).minus(a);
        Fraction odd = greatest(r(), true).plus(a);
        Interval lie = switch (strategies[p]) {
            case 1 -> lies[p][q];
            case 2 -> q % 2 == 0 ? new Interval(even, even) : new Interval(odd, odd);
            case 3 -> new Interval(own.low.plus(a), own.high.plus(a));
            case 4 -> own;
            default -> new Interval(inputs[p].low.plus(a.times(r())),
                    inputs[p].high.plus(a.times(r())));
        };
        return new Interval(cut(lie.low), cut(lie.high));
    }

    private static Fraction cut(Fraction end) {
        Fraction most = Fraction.of(10000, 1);
        Fraction fewest = Fraction.of(-10000, 1);
        return end.compareTo(most) > 0 ? most : end.compareTo(fewest) < 0 ? fewest : end;
    }

    /** Empty if q gets too little. */
    private List<Fraction> restOf(int q, boolean high) {
        List<Fraction> all = new ArrayList<>();
        for (int p = 0; p < n; p++) {
            Interval one = sent(p, q);
            if (one != null) {
                all.add(one.end(high));
            }
        }
        all.sort(null);
        return all.size() <= 2 * t ? List.of() : all.subList(t, all.size() - t);
    }

    private Fraction next(int q, boolean high) {
        List<Fraction> x = restOf(q, high);
        int s = x.size();
        if (s == 0) {
            return valueAt(q, r()).end(high);
        }
        List<Fraction> taken = new ArrayList<>();
        switch (rule) {
            case 0 -> taken.addAll(x);
            case 1 -> taken.addAll(List.of(x.get(0), x.get(s - 1)));
            case 2 -> taken.addAll(s % 2 == 1 ? x.subList(s / 2, s / 2 + 1)
                    : x.subList(s / 2 - 1, s / 2 + 1));
            default -> {
                for (int k = 0; k < s; k += t > 1 ? t : 1) {
                    taken.add(x.get(k));
                }
            }
        }
        Fraction sum = Fraction.ZERO;
        for (Fraction one : taken) {
            sum = sum.plus(one);
        }
        return sum.by(Fraction.of(taken.size(), 1)).downTo(g);
    }

    private void oneRound() {
        Interval[] values = new Interval[n];
        for (int q = 0; q < n; q++) {
            values[q] = strategies[q] == 0 ? new Interval(next(q, false), next(q, true)) : null;
        }
        later.add(values);
    }

    int run(int rounds) {
        if (rounds < 1 || rounds > 60) {
            return Check.BAD_VALUE;
        }
        if (r() + rounds > 60) {
            return Check.FULL;
        }
        for (int i = 0; i < rounds; i++) {
            oneRound();
        }
        return r();
    }

    int roundsTo(int numerator, int denominator, int most) {
        return new Model(this).runTo(numerator, denominator, most);
    }

    int runTo(int numerator, int denominator, int most) {
        if (numerator < 0 || numerator > 1000 || denominator < 1 || denominator > 1000 || most < 0
                || most > 60) {
            return Check.BAD_VALUE;
        }
        Model trial = new Model(this);
        Fraction goal = Fraction.of(numerator, denominator);
        int done = 0;
        while (trial.widthAfter(trial.r()).compareTo(goal) > 0) {
            if (done == most || trial.r() == 60) {
                return Check.NONE;
            }
            trial.oneRound();
            done++;
        }
        later = trial.later;
        return done;
    }

    int back(int rounds) {
        if (rounds < 0 || rounds > r()) {
            return Check.BAD_VALUE;
        }
        later = new ArrayList<>(later.subList(0, r() - rounds));
        return r();
    }

    private static long part(Fraction fraction, boolean denominator) {
        if (fraction == null) {
            return Check.NO_VALUE;
        }
        return (denominator ? fraction.d : fraction.n).longValueExact();
    }

    long value(int node, int round, boolean high, boolean denominator) {
        if (unknown(node) || round < 0 || round > r() || strategies[node] != 0) {
            return Check.NO_VALUE;
        }
        return part(valueAt(node, round).end(high), denominator);
    }

    long input(int node, boolean high, boolean denominator) {
        return unknown(node) ? Check.NO_VALUE : part(inputs[node].end(high), denominator);
    }

    long received(int receiver, int sender, boolean high, boolean denominator) {
        if (unknown(receiver) || unknown(sender) || strategies[receiver] != 0) {
            return Check.NO_VALUE;
        }
        Interval one = sent(sender, receiver);
        return one == null ? Check.NO_VALUE : part(one.end(high), denominator);
    }

    long rest(int receiver, int k, boolean high, boolean denominator) {
        if (unknown(receiver) || strategies[receiver] != 0) {
            return Check.NO_VALUE;
        }
        List<Fraction> x = restOf(receiver, high);
        return k < 0 || k >= x.size() ? Check.NO_VALUE : part(x.get(k), denominator);
    }

    int mostFrequent(int what) {
        if (what != 0 && what != 1) {
            return Check.BAD_VALUE;
        }
        int best = Check.NONE;
        long most = 0;
        for (int p = n - 1; p >= 0; p--) {
            if (strategies[p] == 0) {
                Interval own = valueAt(p, r());
                long holders = correctValues(r()).stream().filter(own::equals).count();
                if (holders >= most) {
                    most = holders;
                    best = p;
                }
            }
        }
        return what == 0 || best < 0 ? best : (int) most;
    }

    private Fraction widthAfter(int round) {
        Fraction low = greatest(round, false).minus(least(round, false));
        Fraction high = greatest(round, true).minus(least(round, true));
        return low.compareTo(high) > 0 ? low : high;
    }

    long width(int round, boolean denominator) {
        return round < 0 || round > r() ? Check.NO_VALUE : part(widthAfter(round), denominator);
    }

    long rate(int round, boolean denominator) {
        if (round < 1 || round > r() || widthAfter(round - 1).equals(Fraction.ZERO)) {
            return Check.NO_VALUE;
        }
        return part(widthAfter(round).by(widthAfter(round - 1)), denominator);
    }

    long guarantee(boolean denominator) {
        for (int p = 0; p < n; p++) {
            for (int q = 0; q < n; q++) {
                if (delays[p][q] != 0) {
                    return Check.NO_VALUE;
                }
            }
        }
        if (count(4) > t || n <= 3 * t || rule == 2) {
            return Check.NO_VALUE;
        }
        if (t == 0) {
            return part(Fraction.ZERO, denominator);
        }
        Fraction[] factors = {Fraction.of(t, n - 2 * t), Fraction.of(1, 2), null,
            Fraction.of(1, (n - 2 * t - 1) / t + 1)};
        return part(factors[rule], denominator);
    }

    long hull(boolean high, boolean denominator) {
        if (correctValues(0).isEmpty()) {
            return Check.NO_VALUE;
        }
        return part(high ? greatest(0, true) : least(0, false), denominator);
    }

    int outside() {
        int found = 0;
        for (int p = 0; p < n; p++) {
            if (strategies[p] == 0 && (valueAt(p, r()).low.compareTo(least(0, false)) < 0
                    || valueAt(p, r()).high.compareTo(greatest(0, true)) > 0)) {
                found += 1 << p;
            }
        }
        return found;
    }

    private Fraction widthThen(int rounds) {
        run(rounds);
        return widthAfter(r());
    }

    int worstStrategy(int node, int rounds) {
        if (unknown(node)) {
            return Check.UNKNOWN;
        }
        if (rounds < 1 || rounds > 10) {
            return Check.BAD_VALUE;
        }
        if (strategies[node] == 0) {
            return Check.NOT_NOW;
        }
        if (r() + rounds > 60) {
            return Check.FULL;
        }
        int worst = 0;
        Fraction width = Fraction.of(-1, 1);
        for (int one = 1; one <= 5; one++) {
            Model trial = new Model(this);
            trial.strategies[node] = one;
            Fraction reached = trial.widthThen(rounds);
            if (reached.compareTo(width) > 0) {
                width = reached;
                worst = one;
            }
        }
        return worst;
    }

    int bestRule(int rounds) {
        if (rounds < 1 || rounds > 10) {
            return Check.BAD_VALUE;
        }
        if (r() + rounds > 60) {
            return Check.FULL;
        }
        int best = -1;
        Fraction width = null;
        for (int one = 0; one <= 3; one++) {
            Model trial = new Model(this);
            trial.rule = one;
            Fraction reached = trial.widthThen(rounds);
            if (width == null || reached.compareTo(width) < 0) {
                width = reached;
                best = one;
            }
        }
        return best;
    }
}
