/** Promises 3 to 6: the text, and reading intervals from it. */
public final class TextTest {
    public static void main(String[] args) {
        Check c = new Check("TextTest");
        typing(c);
        intervalsAreRead(c);
        faults(c);
        faultsOfTheGrid(c);
        readInputChecks(c);
        readInputOfFaultyNode(c);
        readLieChecks(c);
        longestText(c);
        c.finish();
    }

    private static void typing(Check c) {
        IntervalAgreement x = new IntervalAgreement();
        c.same("clearText of nothing", x.clearText(), 0);
        for (int i = 1; i <= 40; i++) {
            c.same("type", x.type((char) (i * 1600)), i);
        }
        c.same("the 41st", x.type('1'), Check.FULL);
        c.same("the 42nd", x.type('1'), Check.FULL);
        c.same("clearText", x.clearText(), 40);
        c.same("clearText again", x.clearText(), 0);
        c.same("type again", x.type('1'), 1);
        c.same("type any character", x.type((char) 0), 2);
        c.same("type the last character", x.type((char) 65535), 3);
        c.same("clearText at last", x.clearText(), 3);
    }

    static void read(Check c, int grid, String text, long low, long lowDenominator,
            long high, long highDenominator) {
        IntervalAgreement x = Check.fresh(3, 0, grid);
        c.input(x, 1, text);
        c.same("low of " + text, x.input(1, false, false), low);
        c.same("low's denominator of " + text, x.input(1, false, true), lowDenominator);
        c.same("high of " + text, x.input(1, true, false), high);
        c.same("high's denominator of " + text, x.input(1, true, true), highDenominator);
        c.end(x, 1, 0, false, low, lowDenominator);
        c.end(x, 1, 0, true, high, highDenominator);
        c.same("the text stays", x.clearText(), text.length());
    }

    private static void intervalsAreRead(Check c) {
        read(c, 720720, "0", 0, 1, 0, 1);
        read(c, 720720, "5", 5, 1, 5, 1);
        read(c, 720720, "-5", -5, 1, -5, 1);
        read(c, 720720, "-0", 0, 1, 0, 1);
        read(c, 720720, "3/6", 1, 2, 1, 2);
        read(c, 2, "3/6", 1, 2, 1, 2);
        read(c, 720720, "-9/6..1/3", -3, 2, 1, 3);
        read(c, 720720, "-5/2..-9/4", -5, 2, -9, 4);
        read(c, 720720, "5..5", 5, 1, 5, 1);
        read(c, 1, "-1000..1000", -1000, 1, 1000, 1);
        read(c, 1, "2000/2", 1000, 1, 1000, 1);
        read(c, 1, "999999/999999", 1, 1, 1, 1);
        read(c, 1, "000007", 7, 1, 7, 1);
        read(c, 1, "0/999999", 0, 1, 0, 1);
        read(c, 720720, "1/720720..000001/000002", 1, 720720, 1, 2);
        read(c, 10, "1/10..7/10", 1, 10, 7, 10);
        read(c, 720720, "0..-0", 0, 1, 0, 1);
    }

    static void fault(Check c, int grid, String text, int due) {
        IntervalAgreement x = Check.fresh(3, 0, grid);
        Check.type(x, text);
        c.same("readInput of " + text, x.readInput(1), -100 - due);
        c.same("readLie of " + text, x.readLie(1, 2), -100 - due);
        c.value(x, 1, 0, 0, 1);
        c.same("the text stays", x.clearText(), text.length());
    }

    private static void faults(Check c) {
        fault(c, 60, "", 0);
        fault(c, 60, "-", 1);
        fault(c, 60, "--1", 1);
        fault(c, 60, "+1", 0);
        fault(c, 60, " 1", 0);
        fault(c, 60, "1 ", 1);
        fault(c, 60, "/2", 0);
        fault(c, 60, ".", 0);
        fault(c, 60, "3/", 2);
        fault(c, 60, "3/-1", 2);
        fault(c, 60, "3/x", 2);
        fault(c, 60, "3/2/1", 3);
        fault(c, 60, "3/2-", 3);
        fault(c, 60, "5.", 2);
        fault(c, 60, "5.6", 2);
        fault(c, 60, "5..", 3);
        fault(c, 60, "5..-", 4);
        fault(c, 60, "5...6", 3);
        fault(c, 60, "5..x", 3);
        fault(c, 60, "5..6x", 4);
        fault(c, 60, "5..6..7", 4);
        fault(c, 60, "5..6/", 5);
        fault(c, 60, "1:2", 1);
        fault(c, 60, "1" + (char) 300, 1);
        fault(c, 60, "1" + (char) 0, 1);
        fault(c, 60, "" + (char) 0x0661, 0);
        fault(c, 60, "1234567", 6);
        fault(c, 60, "0000001", 6);
        fault(c, 60, "-1234567", 7);
        fault(c, 60, "1/0000000", 8);
        fault(c, 60, "9999/1234567", 11);
        fault(c, 60, "1..0000000", 9);
        fault(c, 60, "1..-1/0000000x", 12);
    }

    private static void faultsOfTheGrid(Check c) {
        fault(c, 60, "1001", 0);
        fault(c, 60, "-1001", 0);
        fault(c, 60, "60001/60", 0);
        fault(c, 60, "1/0", 0);
        fault(c, 60, "0/0", 0);
        fault(c, 60, "1/7", 0);
        fault(c, 60, "-1/7x", 0);
        fault(c, 60, "1001..5", 0);
        fault(c, 60, "1001.x", 0);
        fault(c, 60, "1001x", 0);
        fault(c, 60, "1001/", 5);
        fault(c, 60, "1001/x", 5);
        fault(c, 60, "1/7/2", 0);
        fault(c, 60, "1..1/7", 3);
        fault(c, 60, "1..1/7y", 3);
        fault(c, 60, "-1..-1001", 4);
        fault(c, 60, "1..1001", 3);
        fault(c, 60, "5..4", 3);
        fault(c, 60, "5..4x", 3);
        fault(c, 60, "5..4/", 5);
        fault(c, 60, "1/2..-1/2", 5);
        fault(c, 60, "1/2..29/60", 5);
        fault(c, 1, "1/2", 0);
        fault(c, 720720, "1/17", 0);
        fault(c, 720720, "720720001/720720", 6);
    }

    private static void readInputChecks(Check c) {
        IntervalAgreement x = Check.fresh(3, 0, 60);
        Check.type(x, "x");
        c.same("readInput(3)", x.readInput(3), Check.UNKNOWN);
        c.same("readInput(-1)", x.readInput(-1), Check.UNKNOWN);
        c.same("readInput(MAX)", x.readInput(Integer.MAX_VALUE), Check.UNKNOWN);
        c.same("readInput(0)", x.readInput(0), -100);
        c.input(x, 0, "1");
        c.input(x, 0, "2..3");
        c.end(x, 0, 0, false, 2, 1);
        c.end(x, 0, 0, true, 3, 1);
        x.run(1);
        c.same("readInput(3) later", x.readInput(3), Check.UNKNOWN);
        c.same("readInput(0) later", x.readInput(0), Check.NOT_NOW);
        Check.type(x, "x");
        c.same("readInput(0) later with a fault", x.readInput(0), Check.NOT_NOW);
        c.end(x, 0, 0, true, 3, 1);
        x.back(1);
        c.input(x, 0, "9");
        c.value(x, 0, 0, 9, 1);
    }

    private static void readInputOfFaultyNode(Check c) {
        IntervalAgreement x = Check.fresh(3, 0, 60);
        c.same("setFaulty", x.setFaulty(2, 3, 1, 1), 0);
        c.input(x, 2, "4..5");
        c.same("input of a faulty node", x.input(2, true, false), 5);
        c.same("a faulty node has no value", x.value(2, 0, true, false), Check.NO_VALUE);
        c.same("setCorrect", x.setCorrect(2), 3);
        c.end(x, 2, 0, false, 4, 1);
        c.end(x, 2, 0, true, 5, 1);
    }

    private static void readLieChecks(Check c) {
        IntervalAgreement x = Check.fresh(3, 0, 60);
        Check.type(x, "x");
        c.same("readLie(3, 0)", x.readLie(3, 0), Check.UNKNOWN);
        c.same("readLie(0, 3)", x.readLie(0, 3), Check.UNKNOWN);
        c.same("readLie(-1, 0)", x.readLie(-1, 0), Check.UNKNOWN);
        c.same("readLie(0, -1)", x.readLie(0, -1), Check.UNKNOWN);
        c.same("readLie(1, 1)", x.readLie(1, 1), Check.UNKNOWN);
        c.same("readLie(1, 2)", x.readLie(1, 2), -100);
        c.lie(x, 1, 2, "1/2..3/4");
        c.same("the text stays", x.readLie(1, 0), 1);
        c.received(x, 2, 1, true, 0, 1);
        c.same("setFaulty", x.setFaulty(1, 1, 0, 1), 0);
        c.received(x, 2, 1, false, 1, 2);
        c.received(x, 2, 1, true, 3, 4);
        c.received(x, 0, 1, true, 3, 4);
        x.run(2);
        c.lie(x, 1, 2, "-1000..1000");
        c.received(x, 2, 1, false, -1000, 1);
        c.received(x, 2, 1, true, 1000, 1);
        c.received(x, 0, 1, true, 3, 4);
    }

    private static void longestText(Check c) {
        IntervalAgreement x = new IntervalAgreement();
        String text = "-000001/000002..000001/000002";
        c.input(x, 0, text);
        c.end(x, 0, 0, false, -1, 2);
        StringBuilder full = new StringBuilder(text);
        while (full.length() < 40) {
            full.append('0');
        }
        Check.type(x, full.toString());
        c.same("fault in a full text", x.readInput(0), -100 - text.length());
        Check.type(x, "1..2" + "x".repeat(36));
        c.same("type behind a full text", x.type('3'), Check.FULL);
        c.same("fault behind the interval", x.readInput(0), -104);
    }
}
