/**
 * A simulation of approximate agreement: nodes hold intervals of fractions, exchange them in
 * rounds, and come closer to each other although some of them may be faulty.
 *
 * All numbers are counted in units of 1 / grid, so that every round is exact in whole numbers.
 */
public final class IntervalAgreement {
    public static final int UNKNOWN = -1001;
    public static final int BAD_VALUE = -1002;
    public static final int NOT_NOW = -1003;
    public static final int FULL = -1004;
    public static final int NONE = -1005;
    public static final long NO_VALUE = Long.MIN_VALUE;

    private static final int LEAST_NODES = 2;
    private static final int MOST_NODES = 10;
    private static final int MOST_TRIM = 3;
    private static final int MOST_GRID = 720720;
    private static final int MOST_ROUNDS = 60;
    private static final int MOST_ROUNDS_COMPARED = 10;
    private static final int MOST_DELAY = 3;
    private static final int NO_LINK = -1;
    private static final int MOST_TEXT = 40;
    private static final int MOST_DIGITS = 6;
    private static final int FAULT_BASE = -100;
    private static final int NO_FAULT = -1;
    private static final int NO_DIGITS = -1;

    private static final int GREATEST_NUMBER = 1000;
    private static final int GREATEST_DENOMINATOR = 1000;
    private static final long GREATEST_SENT = 10000;

    private static final int CORRECT = 0;
    private static final int TABLE = 1;
    private static final int SPLIT = 2;
    private static final int MIRROR = 3;
    private static final int SILENT = 4;
    private static final int DRIFT = 5;

    private static final int MEAN = 0;
    private static final int MIDPOINT = 1;
    private static final int MEDIAN = 2;
    private static final int SELECT = 3;

    /** Far above what the greatest common divisor of two long numbers can need. */
    private static final int MOST_STEPS = 1000;

    private final IntervalText text = new IntervalText();
    /** Row k: the values after k rounds. Row 0 is the inputs, those of faulty nodes too. */
    private final IntervalTable values = new IntervalTable(MOST_ROUNDS + 1, MOST_NODES);
    /** Row: the node that lies; column: the receiver. */
    private final IntervalTable lies = new IntervalTable(MOST_NODES, MOST_NODES);
    /** At from * MOST_NODES + to. A node reaches itself with the delay 0, which nothing changes. */
    private final int[] delays = new int[MOST_NODES * MOST_NODES];
    private final int[] strategies = new int[MOST_NODES];
    private final long[] amounts = new long[MOST_NODES];
    /** Made once and used again by each receiver in each round. */
    private final long[] ascending = new long[MOST_NODES];
    /** At most MOST_NODES, so that a node's number is an index of every row. */
    private int nodeCount;
    private int trimCount;
    private int gridSize;
    private int roundCount;
    private int ruleNumber;

    public IntervalAgreement() {
        startAnew(4, 1, MOST_GRID);
    }

    public int reset(int nodes, int trim, int grid) {
        if (!isWithin(nodes, LEAST_NODES, MOST_NODES) || !isWithin(trim, 0, MOST_TRIM)
                || !isWithin(grid, 1, MOST_GRID)) {
            return BAD_VALUE;
        }
        int previous = nodeCount;
        startAnew(nodes, trim, grid);
        return previous;
    }

    public int type(char character) {
        return text.append(character) ? text.size() : FULL;
    }

    public int clearText() {
        return text.empty();
    }

    public int readInput(int node) {
        if (!isNode(node)) {
            return UNKNOWN;
        }
        if (roundCount != 0) {
            return NOT_NOW;
        }
        return readTextInto(values, 0, node);
    }

    public int readLie(int node, int receiver) {
        if (!areTwoNodes(node, receiver)) {
            return UNKNOWN;
        }
        return readTextInto(lies, node, receiver);
    }

    public int setFaulty(int node, int strategy, int numerator, int denominator) {
        if (!isNode(node)) {
            return UNKNOWN;
        }
        if (!isWithin(strategy, TABLE, DRIFT)
                || !isWithin(numerator, -GREATEST_NUMBER, GREATEST_NUMBER)
                || !isWithin(denominator, 1, GREATEST_DENOMINATOR)
                || !isOnGrid(numerator, denominator, gridSize)) {
            return BAD_VALUE;
        }
        if (roundCount != 0) {
            return NOT_NOW;
        }
        int previous = strategies[node];
        strategies[node] = strategy;
        amounts[node] = inUnits(numerator, denominator, gridSize);
        return previous;
    }

    public int setCorrect(int node) {
        if (!isNode(node)) {
            return UNKNOWN;
        }
        if (roundCount != 0) {
            return NOT_NOW;
        }
        int previous = strategies[node];
        strategies[node] = CORRECT;
        return previous;
    }

    public int setLink(int from, int to, int delay) {
        if (!areTwoNodes(from, to)) {
            return UNKNOWN;
        }
        if (!isWithin(delay, NO_LINK, MOST_DELAY)) {
            return BAD_VALUE;
        }
        int previous = delayOf(from, to);
        delays[from * MOST_NODES + to] = delay;
        return previous;
    }

    public int setRule(int rule) {
        if (!isWithin(rule, MEAN, SELECT)) {
            return BAD_VALUE;
        }
        int previous = ruleNumber;
        ruleNumber = rule;
        return previous;
    }

    public int count(int what) {
        switch (what) {
            case 0:
                return nodeCount;
            case 1:
                return trimCount;
            case 2:
                return gridSize;
            case 3:
                return roundCount;
            case 4:
                return faultyNodes();
            case 5:
                return ruleNumber;
            case 6:
                return linksWithDelay(MOST_DELAY);
            case 7:
                return differentValues();
            default:
                return BAD_VALUE;
        }
    }

    public int strategy(int node) {
        return isNode(node) ? strategies[node] : UNKNOWN;
    }

    public int run(int rounds) {
        if (!isWithin(rounds, 1, MOST_ROUNDS)) {
            return BAD_VALUE;
        }
        if (roundCount + rounds > MOST_ROUNDS) {
            return FULL;
        }
        carryOut(rounds);
        return roundCount;
    }

    public int runTo(int numerator, int denominator, int most) {
        if (!isWidthGoal(numerator, denominator, most)) {
            return BAD_VALUE;
        }
        int start = roundCount;
        int needed = carryOutUntil(numerator, denominator, most);
        if (needed == NONE) {
            roundCount = start;
        }
        return needed;
    }

    public int back(int rounds) {
        if (!isWithin(rounds, 0, roundCount)) {
            return BAD_VALUE;
        }
        roundCount -= rounds;
        return roundCount;
    }

    public long value(int node, int round, boolean high, boolean denominator) {
        if (!isCorrect(node) || !isWithin(round, 0, roundCount)) {
            return NO_VALUE;
        }
        return asFraction(values.end(round, node, high), denominator);
    }

    public long input(int node, boolean high, boolean denominator) {
        if (!isNode(node)) {
            return NO_VALUE;
        }
        return asFraction(values.end(0, node, high), denominator);
    }

    public long received(int receiver, int sender, boolean high, boolean denominator) {
        if (!isCorrect(receiver) || !isNode(sender) || delayOf(sender, receiver) == NO_LINK) {
            return NO_VALUE;
        }
        return asFraction(sentEnd(sender, receiver, high), denominator);
    }

    public long rest(int receiver, int k, boolean high, boolean denominator) {
        if (!isCorrect(receiver) || k < 0 || k >= collectRest(receiver, high)) {
            return NO_VALUE;
        }
        return asFraction(restAt(k), denominator);
    }

    public int mostFrequent(int what) {
        if (!isWithin(what, 0, 1)) {
            return BAD_VALUE;
        }
        if (correctSet() == 0) {
            return NONE;
        }
        int first = 0;
        int most = 0;
        for (int node = 0; node < nodeCount; node++) {
            int holders = isCorrect(node) ? holdersOfValueOf(node) : 0;
            if (holders > most) {
                most = holders;
                first = node;
            }
        }
        return what == 0 ? first : most;
    }

    public long width(int round, boolean denominator) {
        if (!isWithin(round, 0, roundCount)) {
            return NO_VALUE;
        }
        return asFraction(widthAfter(round), denominator);
    }

    public long rate(int round, boolean denominator) {
        if (!isWithin(round, 1, roundCount)) {
            return NO_VALUE;
        }
        long before = widthAfter(round - 1);
        return before == 0 ? NO_VALUE : inLowestTerms(widthAfter(round), before, denominator);
    }

    public long guarantee(boolean denominator) {
        if (!isGuaranteed()) {
            return NO_VALUE;
        }
        if (trimCount == 0) {
            return inLowestTerms(0, 1, denominator);
        }
        switch (ruleNumber) {
            case MEAN:
                return inLowestTerms(trimCount, nodeCount - 2 * trimCount, denominator);
            case MIDPOINT:
                return inLowestTerms(1, 2, denominator);
            default:
                return inLowestTerms(1, (nodeCount - 2 * trimCount - 1) / trimCount + 1, denominator);
        }
    }

    public long hull(boolean high, boolean denominator) {
        int members = correctSet();
        if (members == 0) {
            return NO_VALUE;
        }
        return asFraction(values.extremeEnd(0, members, high, high), denominator);
    }

    public int outside() {
        int members = correctSet();
        long least = values.extremeEnd(0, members, false, false);
        long greatest = values.extremeEnd(0, members, true, true);
        int found = 0;
        for (int node = 0; node < nodeCount; node++) {
            if (isCorrect(node) && (values.end(roundCount, node, false) < least
                    || values.end(roundCount, node, true) > greatest)) {
                found |= 1 << node;
            }
        }
        return found;
    }

    public int roundsTo(int numerator, int denominator, int most) {
        if (!isWidthGoal(numerator, denominator, most)) {
            return BAD_VALUE;
        }
        int start = roundCount;
        int needed = carryOutUntil(numerator, denominator, most);
        roundCount = start;
        return needed;
    }

    public int worstStrategy(int node, int rounds) {
        if (!isNode(node)) {
            return UNKNOWN;
        }
        if (!isWithin(rounds, 1, MOST_ROUNDS_COMPARED)) {
            return BAD_VALUE;
        }
        if (isCorrect(node)) {
            return NOT_NOW;
        }
        if (roundCount + rounds > MOST_ROUNDS) {
            return FULL;
        }
        int own = strategies[node];
        int worst = TABLE;
        long greatest = -1;
        for (int tried = TABLE; tried <= DRIFT; tried++) {
            strategies[node] = tried;
            long reached = widthInFuture(rounds);
            if (reached > greatest) {
                greatest = reached;
                worst = tried;
            }
        }
        strategies[node] = own;
        return worst;
    }

    public int bestRule(int rounds) {
        if (!isWithin(rounds, 1, MOST_ROUNDS_COMPARED)) {
            return BAD_VALUE;
        }
        if (roundCount + rounds > MOST_ROUNDS) {
            return FULL;
        }
        int own = ruleNumber;
        int best = MEAN;
        long least = 0;
        for (int tried = MEAN; tried <= SELECT; tried++) {
            ruleNumber = tried;
            long reached = widthInFuture(rounds);
            if (tried == MEAN || reached < least) {
                least = reached;
                best = tried;
            }
        }
        ruleNumber = own;
        return best;
    }

    private void startAnew(int nodes, int trim, int grid) {
        nodeCount = nodes;
        trimCount = trim;
        gridSize = grid;
        roundCount = 0;
        ruleNumber = MEAN;
        values.clearRow(0);
        for (int node = 0; node < MOST_NODES; node++) {
            strategies[node] = CORRECT;
            lies.clearRow(node);
        }
        for (int link = 0; link < delays.length; link++) {
            delays[link] = 0;
        }
    }

    private int readTextInto(IntervalTable table, int row, int column) {
        int fault = text.parse(gridSize);
        if (fault != NO_FAULT) {
            return FAULT_BASE - fault;
        }
        table.put(row, column, text.parsedLow(), text.parsedHigh());
        return 1;
    }

    // Tests of arguments

    private static boolean isWithin(int number, int least, int greatest) {
        return number >= least && number <= greatest;
    }

    private boolean isNode(int node) {
        return node >= 0 && node < nodeCount;
    }

    private boolean areTwoNodes(int first, int second) {
        return isNode(first) && isNode(second) && first != second;
    }

    private boolean isCorrect(int node) {
        return node >= 0 && node < nodeCount && strategies[node] == CORRECT;
    }

    private static boolean isWidthGoal(int numerator, int denominator, int most) {
        return isWithin(numerator, 0, GREATEST_NUMBER)
                && isWithin(denominator, 1, GREATEST_DENOMINATOR)
                && isWithin(most, 0, MOST_ROUNDS);
    }

    // Fractions

    private static boolean isOnGrid(long numerator, long denominator, long grid) {
        return denominator > 0 && numerator * grid % denominator == 0;
    }

    private static long inUnits(long numerator, long denominator, long grid) {
        return denominator > 0 ? numerator * grid / denominator : 0;
    }

    private long asFraction(long units, boolean denominator) {
        return inLowestTerms(units, gridSize, denominator);
    }

    private static long inLowestTerms(long numerator, long denominator, boolean wantDenominator) {
        long divisor = greatestCommonDivisor(Math.abs(numerator), denominator);
        if (divisor < 1) {
            return NO_VALUE;
        }
        return wantDenominator ? denominator / divisor : numerator / divisor;
    }

    private static long greatestCommonDivisor(long first, long second) {
        long divisor = first;
        long remainder = second;
        for (int step = 0; step < MOST_STEPS && remainder != 0; step++) {
            long next = divisor % remainder;
            divisor = remainder;
            remainder = next;
        }
        return divisor;
    }

    // Nodes, links and their values

    /** Bit k stands for node k. */
    private int correctSet() {
        int members = 0;
        for (int node = 0; node < nodeCount; node++) {
            if (strategies[node] == CORRECT) {
                members |= 1 << node;
            }
        }
        return members;
    }

    private int faultyNodes() {
        return nodeCount - Integer.bitCount(correctSet());
    }

    private int delayOf(int from, int to) {
        int link = from * MOST_NODES + to;
        return link >= 0 && link < delays.length ? delays[link] : NO_LINK;
    }

    private int linksWithDelay(int greatest) {
        int found = 0;
        for (int from = 0; from < nodeCount; from++) {
            for (int to = 0; to < nodeCount; to++) {
                if (from != to && isWithin(delayOf(from, to), 0, greatest)) {
                    found++;
                }
            }
        }
        return found;
    }

    private boolean haveSameValue(int first, int second) {
        return isCorrect(first) && isCorrect(second)
                && values.end(roundCount, first, false) == values.end(roundCount, second, false)
                && values.end(roundCount, first, true) == values.end(roundCount, second, true);
    }

    private int holdersOfValueOf(int node) {
        int holders = 0;
        for (int other = 0; other < nodeCount; other++) {
            if (haveSameValue(node, other)) {
                holders++;
            }
        }
        return holders;
    }

    private int differentValues() {
        int found = 0;
        for (int node = 0; node < nodeCount; node++) {
            if (isCorrect(node) && isFirstHolder(node)) {
                found++;
            }
        }
        return found;
    }

    private boolean isFirstHolder(int node) {
        for (int lower = 0; lower < node; lower++) {
            if (haveSameValue(lower, node)) {
                return false;
            }
        }
        return true;
    }

    private long widthAfter(int round) {
        int members = correctSet();
        long ofLowEnds = values.extremeEnd(round, members, false, true)
                - values.extremeEnd(round, members, false, false);
        long ofHighEnds = values.extremeEnd(round, members, true, true)
                - values.extremeEnd(round, members, true, false);
        return Math.max(ofLowEnds, ofHighEnds);
    }

    private boolean isGuaranteed() {
        return linksWithDelay(0) == nodeCount * (nodeCount - 1)
                && faultyNodes() <= trimCount
                && nodeCount > 3 * trimCount
                && ruleNumber != MEDIAN;
    }

    // What is sent

    /** Answers only for a correct receiver that the sender reaches. */
    private long sentEnd(int sender, int receiver, boolean high) {
        if (!isNode(sender)) {
            return 0;
        }
        long end;
        switch (strategies[sender]) {
            case TABLE:
                end = lies.end(sender, receiver, high);
                break;
            case SPLIT:
                end = receiver % 2 == 0
                        ? values.extremeEnd(roundCount, correctSet(), false, false) - amounts[sender]
                        : values.extremeEnd(roundCount, correctSet(), true, true) + amounts[sender];
                break;
            case MIRROR:
                end = values.end(roundCount, receiver, high) + amounts[sender];
                break;
            case SILENT:
                end = values.end(roundCount, receiver, high);
                break;
            case DRIFT:
                end = values.end(0, sender, high) + roundCount * amounts[sender];
                break;
            default:
                return values.end(Math.max(0, roundCount - delayOf(sender, receiver)), sender, high);
        }
        long limit = GREATEST_SENT * gridSize;
        return Math.max(-limit, Math.min(limit, end));
    }

    // Rounds

    /**
     * Puts what the receiver gets into ascending order and answers how many of it are left when
     * the least and the greatest are discarded; 0 if there are too few to discard.
     */
    private int collectRest(int receiver, boolean high) {
        int gathered = 0;
        for (int sender = 0; sender < nodeCount; sender++) {
            if (delayOf(sender, receiver) != NO_LINK) {
                insertAscending(sentEnd(sender, receiver, high), gathered);
                gathered++;
            }
        }
        return Math.max(0, gathered - 2 * trimCount);
    }

    private void insertAscending(long end, int filled) {
        int place = filled;
        if (place < 0 || place >= ascending.length) {
            return;
        }
        while (place > 0 && ascending[place - 1] > end) {
            ascending[place] = ascending[place - 1];
            place--;
        }
        ascending[place] = end;
    }

    private long restAt(int k) {
        int place = trimCount + k;
        return place >= 0 && place < ascending.length ? ascending[place] : 0;
    }

    private long combined(int left) {
        switch (ruleNumber) {
            case MIDPOINT:
                return Math.floorDiv(restAt(0) + restAt(left - 1), 2L);
            case MEDIAN:
                // With an odd number left both are the middle one.
                return Math.floorDiv(restAt((left - 1) / 2) + restAt(left / 2), 2L);
            case SELECT:
                return meanOfEvery(Math.max(1, trimCount), left);
            default:
                return meanOfEvery(1, left);
        }
    }

    private long meanOfEvery(int step, int left) {
        long sum = 0;
        long taken = 0;
        for (int k = 0; k < left && step > 0; k += step) {
            sum += restAt(k);
            taken++;
        }
        return taken > 0 ? Math.floorDiv(sum, taken) : 0;
    }

    private long nextEnd(int receiver, boolean high) {
        int left = collectRest(receiver, high);
        return left > 0 ? combined(left) : values.end(roundCount, receiver, high);
    }

    private void carryOut(int rounds) {
        for (int done = 0; done < rounds && roundCount < MOST_ROUNDS; done++) {
            for (int node = 0; node < nodeCount; node++) {
                if (isCorrect(node)) {
                    values.put(roundCount + 1, node, nextEnd(node, false), nextEnd(node, true));
                }
            }
            roundCount++;
        }
    }

    /** Leaves the rounds carried out, even if they are not enough. */
    private int carryOutUntil(int numerator, int denominator, int most) {
        int done = 0;
        while (done < most && roundCount < MOST_ROUNDS && !isWidthAtMost(numerator, denominator)) {
            carryOut(1);
            done++;
        }
        return isWidthAtMost(numerator, denominator) ? done : NONE;
    }

    private boolean isWidthAtMost(long numerator, long denominator) {
        return widthAfter(roundCount) * denominator <= numerator * gridSize;
    }

    /** Rows after the present round are free, so that a trial needs no copy of the state. */
    private long widthInFuture(int rounds) {
        int start = roundCount;
        carryOut(rounds);
        long reached = widthAfter(roundCount);
        roundCount = start;
        return reached;
    }

    /** Rows and columns of intervals, all [0, 0] at first. */
    private static final class IntervalTable {
        private final int columns;
        private final long[] lows;
        private final long[] highs;

        IntervalTable(int rows, int columns) {
            int cells = rows > 0 && columns > 0 ? rows * columns : 0;
            this.columns = columns;
            this.lows = new long[cells];
            this.highs = new long[cells];
        }

        long end(int row, int column, boolean high) {
            int cell = row * columns + column;
            if (cell < 0 || cell >= lows.length || cell >= highs.length) {
                return 0;
            }
            return high ? highs[cell] : lows[cell];
        }

        void put(int row, int column, long low, long high) {
            int cell = row * columns + column;
            if (cell < 0 || cell >= lows.length || cell >= highs.length) {
                return;
            }
            lows[cell] = low;
            highs[cell] = high;
        }

        /**
         * The least or the greatest of the low or of the high ends in a row, of the columns in the
         * bit set members alone; 0 if that is empty.
         */
        long extremeEnd(int row, int members, boolean high, boolean greatest) {
            long[] ends = high ? highs : lows;
            long extreme = 0;
            boolean found = false;
            for (int column = 0; column < columns; column++) {
                int cell = row * columns + column;
                boolean isMember = (members >> column & 1) == 1;
                if (isMember && cell >= 0 && cell < ends.length) {
                    boolean isBeyond = greatest ? ends[cell] > extreme : ends[cell] < extreme;
                    extreme = !found || isBeyond ? ends[cell] : extreme;
                    found = true;
                }
            }
            return extreme;
        }

        void clearRow(int row) {
            for (int column = 0; column < columns; column++) {
                put(row, column, 0, 0);
            }
        }
    }

    /** The text that is typed, and the interval that was last found in it. */
    private static final class IntervalText {
        private final char[] characters = new char[MOST_TEXT];
        private int length;
        private int position;
        private long number;
        private long low;
        private long high;

        boolean append(char character) {
            if (length < 0 || length >= characters.length) {
                return false;
            }
            characters[length] = character;
            length++;
            return true;
        }

        int empty() {
            int previous = length;
            length = 0;
            return previous;
        }

        int size() {
            return length;
        }

        long parsedLow() {
            return low;
        }

        long parsedHigh() {
            return high;
        }

        /** Answers the fault of the text, or NO_FAULT. */
        int parse(int grid) {
            position = 0;
            int fault = parseNumber(grid);
            if (fault != NO_FAULT) {
                return fault;
            }
            low = number;
            high = number;
            if (position == length) {
                return NO_FAULT;
            }
            if (!skip('.') || !skip('.')) {
                return position;
            }
            int start = position;
            fault = parseNumber(grid);
            if (fault != NO_FAULT) {
                return fault;
            }
            if (number < low) {
                return start;
            }
            high = number;
            return position == length ? NO_FAULT : position;
        }

        private int parseNumber(int grid) {
            int start = position;
            boolean negative = skip('-');
            long numerator = parseDigits();
            if (numerator == NO_DIGITS) {
                return position;
            }
            long denominator = 1;
            if (skip('/')) {
                denominator = parseDigits();
                if (denominator == NO_DIGITS) {
                    return position;
                }
            }
            if (numerator > GREATEST_NUMBER * denominator
                    || !isOnGrid(numerator, denominator, grid)) {
                return start;
            }
            long units = inUnits(numerator, denominator, grid);
            number = negative ? -units : units;
            return NO_FAULT;
        }

        /** Answers NO_DIGITS, with the position at the fault, if there are none or too many. */
        private long parseDigits() {
            long digits = 0;
            int found = 0;
            while (found < MOST_DIGITS && isDigit(characterNext())) {
                digits = digits * 10 + (characterNext() - '0');
                found++;
                position++;
            }
            return found == 0 || isDigit(characterNext()) ? NO_DIGITS : digits;
        }

        private static boolean isDigit(char character) {
            return character >= '0' && character <= '9';
        }

        private boolean skip(char wanted) {
            if (characterNext() != wanted) {
                return false;
            }
            position++;
            return true;
        }

        /** Behind the end a character that no interval holds. */
        private char characterNext() {
            boolean isInside = position >= 0 && position < length && position < characters.length;
            return isInside ? characters[position] : (char) 0;
        }
    }
}
