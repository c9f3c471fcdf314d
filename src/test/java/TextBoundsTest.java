/** The edges of texts and of the programs that are read from them: "TEXTS", "PROGRAMS", promises 6 to 8. */
public final class TextBoundsTest {
    public static void main(String[] args) {
        lengths();
        anyCharacter();
        clearOfEmptyAndFull();
        emptyText();
        endsTooEarly();
        faultAtEachPlace();
        digitsOfANumber();
        numbersInTheirRanges();
        mostPhases();
        fullTexts();
        orderOfErrors();
        programOfOneThatIsStuck();
        textThatStays();
        Check.end();
    }

    private static HaggleWash street(String text) {
        HaggleWash x = Check.streetOf(3, 4);
        Check.program(x, 0, "w3;s2");
        Check.program(x, 1, "w9");
        x.keep();
        x.pass(1);
        x.pass(2);
        Check.write(x, text);
        return x;
    }

    private static void refused(String text, int due) {
        Bounds.refused("readProgram of " + text, () -> street(text), x -> x.readProgram(0), due);
    }

    private static void fault(String text, int fault) {
        refused(text, -100 - fault);
    }

    /** Sees that a text is read, and that each of its phases is told as it was written. */
    private static void good(String text) {
        HaggleWash x = street(text);
        String[] phases = text.split(";");
        int states = x.count(13);
        Check.due("readProgram of " + text, x.readProgram(0), phases.length);
        Check.due("phases", x.washer(0, 7), phases.length);
        for (int i = 0; i < phases.length; i++) {
            Check.due("kind " + i + " of " + text, x.phase(0, i, 0), phases[i].charAt(0));
            int number = phases[i].length() == 1 ? 0 : Integer.parseInt(phases[i].substring(1));
            Check.due("number " + i + " of " + text, x.phase(0, i, 1), number);
        }
        Check.due("behind the last", x.phase(0, phases.length, 0), -1);
        Check.due("before the first", x.phase(0, -1, 0), -1);
        Check.due("an act", x.count(13), Math.min(4, states + 1));
        Check.due("the other one has its own", x.washer(1, 7), 1);
    }

    /** "There is a text of at most 60 characters, empty at first." "FULL if it has 60 characters" */
    private static void lengths() {
        HaggleWash x = new HaggleWash();
        Check.due("empty at first", x.count(14), 0);
        for (int i = 1; i <= 60; i++) {
            Check.due("type", x.type('d'), i);
            Check.due("length", x.count(14), i);
        }
        String full = "d;".repeat(30);
        Bounds.refused("type into the full text", () -> street(full), y -> y.type('d'), -3);
        HaggleWash y = street(full.substring(1));
        Check.due("the last character", y.type('d'), 60);
        Check.due("one more", y.type('d'), -3);
        Check.due("one more", y.type('w'), -3);
        Check.due("clearText", y.clearText(), 60);
        Check.due("type", y.type('d'), 1);
        Check.due("readProgram", y.readProgram(0), 1);
    }

    /** "any character" */
    private static void anyCharacter() {
        char[] signs = {0, 1, 9, 10, ' ', '/', '0', '9', ':', ';', '<', 'c', 'e', 'D', 127, 128, 255, 256, 0x7fff, 0x8000,
            0xd800, 0xffff, 'd' + 256, ';' + 256, '1' + 256, 0x661};
        for (char sign : signs) {
            HaggleWash x = street("");
            Check.due("type of " + (int) sign, x.type(sign), 1);
            Check.due("length", x.count(14), 1);
            fault(String.valueOf(sign), 0);
            if (sign != ';') {
                fault("d" + sign, 1);
                fault("w12" + sign, 3);
            }
            if (sign < '0' || sign > '9') {
                fault("w" + sign, 1);
            }
        }
    }

    /** "Returns the length that it had." */
    private static void clearOfEmptyAndFull() {
        HaggleWash x = new HaggleWash();
        Check.due("clearText of the empty text", x.clearText(), 0);
        Check.due("clearText of the empty text", x.clearText(), 0);
        for (int length : new int[] {1, 2, 59, 60}) {
            Check.write(x, "w".repeat(length));
            Check.due("clearText", x.clearText(), length);
            Check.due("length", x.count(14), 0);
        }
        Check.due("no act", x.count(13), 0);
    }

    /** "(the empty text does)" */
    private static void emptyText() {
        fault("", 0);
        HaggleWash x = Check.streetOf(1);
        Check.due("readProgram at first", x.readProgram(0), -100);
        x.type('d');
        Check.due("readProgram", x.readProgram(0), 1);
        x.clearText();
        Check.due("readProgram of the text emptied", x.readProgram(0), -100);
        Check.due("the program stays", x.washer(0, 7), 1);
    }

    /** "or the length of the text if it ends too early" */
    private static void endsTooEarly() {
        String whole = "f60;h95;w99;d;s30;d;w1";
        String[] early = {"", "f", "f60;", "f60;h", "f60;h95;", "f60;h95;w", "f60;h95;w99;", "f60;h95;w99;d;",
            "f60;h95;w99;d;s", "f60;h95;w99;d;s30;", "f60;h95;w99;d;s30;d;", "f60;h95;w99;d;s30;d;w"};
        for (String text : early) {
            fault(text, text.length());
        }
        String[] right = {"f6", "f60", "f60;h95", "f60;h95;w9", "f60;h95;w99", "f60;h95;w99;d", "f60;h95;w99;d;s3",
            "f60;h95;w99;d;s30", "f60;h95;w99;d;s30;d", whole};
        for (String text : right) {
            good(text);
        }
    }

    /** "the index, from 0, of the first character that is not allowed at its place" */
    private static void faultAtEachPlace() {
        String whole = "f60;h95;w99;d;s30;d;w1";
        for (int i = 0; i < whole.length(); i++) {
            fault(whole.substring(0, i) + "x" + whole.substring(i + 1), i);
            fault(whole.substring(0, i) + "x" + whole.substring(i), i);
            fault(whole.substring(0, i) + "xx", i);
        }
        fault(whole + "x", whole.length());
        fault("d;d;x;y", 4);
        fault("fx;d;", 1);
        fault("d,d", 1);
        fault(";d", 0);
        fault("d;;d", 2);
        fault("dw1", 1);
    }

    /** "(one or two digits, the first one not 0)", "except for d" */
    private static void digitsOfANumber() {
        for (char kind : new char[] {'f', 'h', 'w', 's'}) {
            fault(kind + "0", 1);
            fault(kind + "00", 1);
            fault(kind + "01", 1);
            fault(kind + "016", 1);
            fault(kind + "160", 3);
            fault(kind + "999", 3);
            fault(kind + "+1", 1);
            fault(kind + "-1", 1);
            fault(kind + "1 ", 2);
            fault(kind + "", 1);
            fault(kind + ";d", 1);
            good(kind + "20");
            good("d;" + kind + "20;d");
        }
        good("f1");
        good("w1");
        good("s1");
        refused("h1", -2);
        for (char digit = '0'; digit <= '9'; digit++) {
            fault("d" + digit, 1);
        }
    }

    /** "BAD_VALUE if a number is out of its range": f 1 to 60, h 16 to 95, w 1 to 99, s 1 to 30 */
    private static void numbersInTheirRanges() {
        String kinds = "fhws";
        int[] least = {1, 16, 1, 1};
        int[] most = {60, 95, 99, 30};
        for (int i = 0; i < least.length; i++) {
            for (int number = 1; number <= 99; number++) {
                String text = kinds.charAt(i) + "" + number;
                if (least[i] <= number && number <= most[i]) {
                    good(text);
                } else {
                    refused(text, -2);
                }
            }
        }
        for (String bad : new String[] {"f61", "h15", "h96", "s31"}) {
            for (int place = 0; place < 12; place++) {
                refused("d;".repeat(place) + bad + ";d".repeat(11 - place), -2);
            }
        }
    }

    /** "A program is a row of 1 to 12 phases", "FULL if it has more than 12 phases" */
    private static void mostPhases() {
        for (int phases = 1; phases <= 12; phases++) {
            good("d" + ";d".repeat(phases - 1));
            good("w99" + ";w9".repeat(phases - 1));
        }
        for (int phases = 13; phases <= 30; phases++) {
            refused("d" + ";d".repeat(phases - 1), -3);
        }
        refused("w99" + ";w9".repeat(12), -3);
        good("f60;h95;w99;s30;f60;h95;w99;s30;f60;h95;w99;s30");
    }

    /** A text of 60 characters, with a fault at its end or without one. */
    private static void fullTexts() {
        fault("d;".repeat(30), 60);
        fault("w99;".repeat(15), 60);
        fault("w99;".repeat(14) + "w99x", 59);
        fault("w99;".repeat(14) + "d;;d", 58);
        fault("d;".repeat(29) + "dd", 59);
        fault("d;".repeat(29) + "xx", 58);
        fault("d;".repeat(29) + ";w", 58);
        fault("x" + "d".repeat(59), 0);
        refused("w99;".repeat(14) + "w9;d", -3);
        refused("d;".repeat(29) + "w1", -3);
        refused("d;".repeat(28) + "s31", -2);
        fault("d;".repeat(29) + "w", 59);
        refused("d;".repeat(29) + "d", -3);
    }

    /** "UNKNOWN; -100 minus the fault ..; BAD_VALUE ..; FULL ..; NOT_POSSIBLE if the washer runs" */
    private static void orderOfErrors() {
        String tooMany = ";d".repeat(12);
        String[] texts = {"f61" + tooMany + ";", "f61" + tooMany, "d" + tooMany, "f60"};
        int[] running = {-100 - 28, -2, -3, -4};
        int[] resting = {-100 - 28, -2, -3, 1};
        for (int i = 0; i < texts.length; i++) {
            String text = texts[i];
            Bounds.refused("runs, " + text, () -> {
                HaggleWash x = street(text);
                x.start(0);
                return x;
            }, x -> x.readProgram(0), running[i]);
            Check.due("rests, " + text, street(text).readProgram(0), resting[i]);
            for (int house : new int[] {-1, 2}) {
                Bounds.refused("no house, " + text, () -> street(text), x -> x.readProgram(house), -1);
            }
        }
        refused("h15;d5", -100 - 5);
        refused("s31;h", -100 - 5);
        refused("d" + tooMany + ";s31", -2);
        HaggleWash x = street("w5");
        x.start(0);
        Check.due("runs", x.readProgram(0), -4);
        Check.due("the other one rests", x.readProgram(1), 1);
        x.pass(5);
        Check.due("is over", x.readProgram(0), 1);
    }

    /** "(one that is stuck keeps the number of its phase until it is stopped)" */
    private static void programOfOneThatIsStuck() {
        HaggleWash x = Check.streetOf(1, 1);
        Check.run(x, 0, "d;d;d;d;d;d;d;d;d;d;d;h50");
        x.pass(12);
        for (String text : new String[] {"f9", "h50", "s1", "d;d;d;d;d;d;d;d;d;d;d;d"}) {
            Check.program(x, 0, text);
            Check.due("is stuck", x.washer(0, 0), 2);
            Check.due("keeps its phase", x.washer(0, 1), 11);
            Check.due("gone", x.washer(0, 6), 0);
            Check.due("wants nothing", x.boiler(6), 0);
            Check.due("heatNext", x.heatNext(0), 0);
            Check.due("overIn", x.overIn(0), -4);
            x.power(false);
            x.power(true);
            x.pass(1);
            Check.due("keeps its phase", x.washer(0, 1), 11);
            Check.due("start", x.start(0), -4);
        }
        Check.program(x, 0, "w9");
        Check.due("stop", x.stop(0), 11);
        Check.due("phase", x.washer(0, 1), -5);
        Check.due("start", x.start(0), 1);
        Check.due("phase", x.washer(0, 1), 0);
    }

    /** "Gives a washer the program of the text, which stays" */
    private static void textThatStays() {
        HaggleWash x = street("w7;d");
        Check.due("readProgram", x.readProgram(0), 2);
        Check.due("length", x.count(14), 4);
        Check.due("readProgram again", x.readProgram(0), 2);
        Check.due("readProgram of the other", x.readProgram(1), 2);
        Check.due("states", x.count(13), 4);
        x.type(';');
        Check.due("the program stays", x.washer(0, 7), 2);
        x.clearText();
        Check.due("the program stays", x.phase(0, 0, 1), 7);
    }
}
