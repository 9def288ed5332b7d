/** Boundaries of what the document tells under TEXT. */
final class TextBoundaries {
    private static final String SIX = "000001";
    private static final String SEVEN = "0000001";

    private TextBoundaries() {
    }

    static void test(Sentences s) {
        s.section("TEXT");
        length(s);
        grammar(s);
        digits(s);
        ends(s);
        numbers(s);
        faultsOfPlaces(s);
        faultsOfNumbers(s);
    }

    private static void fault(Check c, String text, int due) {
        TextTest.fault(c, 60, text, due);
    }

    private static void length(Sentences s) {
        s.test("There is a text of at most 40 characters, empty at first.", c -> {
            IntervalAgreement x = new IntervalAgreement();
            c.same("fault of the empty text", x.readInput(0), -100);
            for (int i = 1; i <= 40; i++) {
                c.same("type", x.type('7'), i);
            }
            c.same("the 41st", x.type('7'), Check.FULL);
            c.same("clearText", x.clearText(), 40);
            c.same("clearText of a new object", new IntervalAgreement().clearText(), 0);
        });
    }

    private static void grammar(Sentences s) {
        s.test("An interval is written like this, without blanks:", c -> {
            String text = "-9/2..-4/3";
            for (int place = 0; place <= text.length(); place++) {
                fault(c, text.substring(0, place) + " " + text.substring(place), place);
            }
            fault(c, " ", 0);
            fault(c, "1\t", 1);
            fault(c, "1\n", 1);
        });
        s.test("interval = number [ \"..\" number ]", c -> {
            TextTest.read(c, 60, "1", 1, 1, 1, 1);
            TextTest.read(c, 60, "1..2", 1, 1, 2, 1);
            fault(c, "", 0);
            fault(c, "..2", 0);
            fault(c, "1.", 2);
            fault(c, "1.2", 2);
            fault(c, "1..", 3);
            fault(c, "1...", 3);
            fault(c, "1..2.", 4);
            fault(c, "1..2..3", 4);
            fault(c, "1 2", 1);
        });
        s.test("number = [ \"-\" ] digits [ \"/\" digits ]", c -> {
            TextTest.read(c, 60, "-1/2..-1/3", -1, 2, -1, 3);
            fault(c, "-", 1);
            fault(c, "--1", 1);
            fault(c, "+1", 0);
            fault(c, "1-", 1);
            fault(c, "/2", 0);
            fault(c, "-/2", 1);
            fault(c, "1/", 2);
            fault(c, "1//2", 2);
            fault(c, "1/-2", 2);
            fault(c, "1/2/3", 3);
            fault(c, "1..--2", 4);
            fault(c, "1..-", 4);
            fault(c, "1..2/", 5);
            fault(c, "1..2/3/4", 3);
            fault(c, "1..5/2/4", 6);
        });
    }

    private static void digits(Sentences s) {
        s.test("digits = 1 to 6 digits", c -> {
            TextTest.read(c, 60, SIX, 1, 1, 1, 1);
            TextTest.read(c, 60, "-" + SIX + "/" + SIX, -1, 1, -1, 1);
            TextTest.read(c, 60, "0.." + SIX + "/" + SIX, 0, 1, 1, 1);
            TextTest.read(c, 60, "999999/999999", 1, 1, 1, 1);
            TextTest.read(c, 60, "0030/0040", 3, 4, 3, 4);
            fault(c, SEVEN, 6);
            fault(c, "-" + SEVEN, 7);
            fault(c, "1/" + SEVEN, 8);
            fault(c, "0.." + SEVEN, 9);
            fault(c, "0..1/" + SEVEN, 11);
            fault(c, "7:", 1);
            fault(c, "" + (char) 0x0661, 0);
            fault(c, "" + (char) 0xff11, 0);
            fault(c, "1" + (char) (256 + '1'), 1);
        });
    }

    private static void ends(Sentences s) {
        s.test("A single number stands for both ends.", c -> {
            TextTest.read(c, 60, "-1000", -1000, 1, -1000, 1);
            TextTest.read(c, 60, "0", 0, 1, 0, 1);
            TextTest.read(c, 60, "1000", 1000, 1, 1000, 1);
            // The ends of what was read before are both replaced.
            IntervalAgreement x = c.nodes(0, 60, "-5..6", "7");
            c.input(x, 0, "1/2");
            c.value(x, 0, 0, 1, 2);
        });
        s.test("The first number is the low end.", c -> {
            TextTest.read(c, 60, "-1/60..1/60", -1, 60, 1, 60);
            TextTest.read(c, 60, "-1000..-1000", -1000, 1, -1000, 1);
            fault(c, "1/60..-1/60", 6);
        });
    }

    private static void numbers(Sentences s) {
        s.test("A number must be from -1000 to 1000 and a multiple of 1 / g (3/6 is 1/2; the"
                + " denominator must not be 0).", c -> {
            TextTest.read(c, 60, "-1000..1000", -1000, 1, 1000, 1);
            TextTest.read(c, 60, "-60000/60..60000/60", -1000, 1, 1000, 1);
            TextTest.read(c, 60, "-59999/60..59999/60", -59999, 60, 59999, 60);
            fault(c, "1001", 0);
            fault(c, "-1001", 0);
            fault(c, "60001/60", 0);
            fault(c, "-60001/60", 0);
            fault(c, "999999", 0);
            TextTest.read(c, 2, "3/6", 1, 2, 1, 2);
            TextTest.fault(c, 1, "3/6", 0);
            TextTest.fault(c, 3, "3/6", 0);
            TextTest.read(c, 1, "6/3", 2, 1, 2, 1);
            TextTest.read(c, 1, "0/7", 0, 1, 0, 1);
            TextTest.read(c, 720720, "1/720720", 1, 720720, 1, 720720);
            TextTest.fault(c, 720720, "1/720721", 0);
            TextTest.fault(c, 720719, "1/720720", 0);
            fault(c, "1/0", 0);
            fault(c, "0/0", 0);
            fault(c, "-0/000000", 0);
            fault(c, "0..0/0", 3);
        });
    }

    private static void faultsOfPlaces(Sentences s) {
        s.test("The fault of a text is the index, from 0, of the first character that is not allowed at"
                + " its place (a 7th digit, too), or its length if it ends too early;", c -> {
            fault(c, "x", 0);
            fault(c, "1x", 1);
            fault(c, "-x", 1);
            fault(c, "1/x", 2);
            fault(c, "1/2x", 3);
            fault(c, "1.x", 2);
            fault(c, "1..x", 3);
            fault(c, "1..-x", 4);
            fault(c, "1..2x", 4);
            fault(c, "1..2/x", 5);
            fault(c, "1..2/2x", 6);
            fault(c, "1..4/2x", 6);
            fault(c, "1" + (char) 0, 1);
            fault(c, SIX + "0", 6);
            fault(c, SIX + "0x", 6);
            fault(c, "", 0);
            fault(c, "-", 1);
            fault(c, "1/", 2);
            fault(c, "1.", 2);
            fault(c, "1..", 3);
            fault(c, "1..-", 4);
            fault(c, "1..2/", 5);
            String longest = "-" + SIX + "/" + SIX + "..-" + SIX + "/" + SIX;
            TextTest.read(c, 60, longest, -1, 1, -1, 1);
            fault(c, longest + "0", 30);
            fault(c, longest + "x".repeat(10), 30);
        });
    }

    private static void faultsOfNumbers(Sentences s) {
        s.test("a number that is not as it must be, or a second number that is less than the first one,"
                + " is a fault at the first character of that number (the sign counts), found when the"
                + " number ends (that is, at the end of the text, or before the first character that"
                + " it cannot go on with, but not before a 7th digit).", c -> {
            fault(c, "1001", 0);
            fault(c, "-1001", 0);
            fault(c, "1/7", 0);
            fault(c, "1..1001", 3);
            fault(c, "-9..-1001", 4);
            fault(c, "1..1/7", 3);
            fault(c, "5..4", 3);
            fault(c, "-5..-6", 4);
            fault(c, "1..59/60", 3);
            TextTest.read(c, 60, "1..60/60", 1, 1, 1, 1);
            TextTest.read(c, 60, "1..61/60", 1, 1, 61, 60);
            // Before a character that it cannot go on with.
            fault(c, "1001x", 0);
            fault(c, "1001-", 0);
            fault(c, "1001..", 0);
            fault(c, "1001.x", 0);
            fault(c, "1/7/", 0);
            fault(c, "1/0.", 0);
            fault(c, "5..4x", 3);
            fault(c, "5..4.", 3);
            fault(c, "5..-4-", 3);
            // It goes on, so that what comes then is found first.
            fault(c, "1001/", 5);
            fault(c, "1001/x", 5);
            fault(c, "5..4/", 5);
            fault(c, "5..4/x", 5);
            TextTest.read(c, 60, "2002/2002", 1, 1, 1, 1);
            TextTest.read(c, 60, "1..2/1", 1, 1, 2, 1);
            TextTest.read(c, 60, "-5..-6/2", -5, 1, -3, 1);
            // Not before a 7th digit.
            fault(c, "9999999", 6);
            fault(c, "-9999999", 7);
            fault(c, "1001/0000000", 11);
            fault(c, "5..0000004", 9);
            fault(c, "5..4/0000001", 11);
            fault(c, "999999", 0);
            fault(c, "999999x", 0);
        });
    }
}
