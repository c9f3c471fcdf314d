/** Promises 6 to 8. */
public final class TextTest {
    public static void main(String[] args) {
        typeAndClear();
        faults();
        faultsOfAnySign();
        longTexts();
        numbers();
        orderOfErrors();
        programsOfWashers();
        Check.end();
    }

    private static void typeAndClear() {
        HaggleWash x = new HaggleWash();
        Check.due("clearText of the empty one", x.clearText(), 0);
        char[] signs = {(char) 0, (char) 65535, ' ', (char) 233, (char) 8364};
        for (int i = 0; i < 60; i++) {
            Check.due("type", x.type(signs[i % signs.length]), i + 1);
            Check.due("length", x.count(14), i + 1);
        }
        Check.due("type into the full text", x.type('f'), -3);
        Check.due("length", x.count(14), 60);
        Check.due("no act", x.count(13), 0);
        Check.due("clearText", x.clearText(), 60);
        Check.due("length", x.count(14), 0);
        Check.due("type", x.type('f'), 1);
        Check.due("no act", x.count(13), 0);
        Check.due("clearText", x.clearText(), 1);
    }

    private static void fault(String text, int fault) {
        HaggleWash x = Check.streetOf(1);
        Check.write(x, text);
        Check.due("readProgram of " + text, x.readProgram(0), -100 - fault);
        Check.due("no program", x.washer(0, 7), 0);
        Check.due("no act", x.count(13), 1);
        Check.due("the text stays", x.count(14), text.length());
    }

    private static void faults() {
        fault("", 0);
        fault(";", 0);
        fault("x", 0);
        fault("F10", 0);
        fault("1", 0);
        for (String kind : new String[] {"f", "h", "w", "s"}) {
            fault(kind, 1);
            fault(kind + "0", 1);
            fault(kind + "01", 1);
            fault(kind + ";", 1);
            fault(kind + kind, 1);
            fault(kind + "-1", 1);
            fault(kind + "20;", 4);
            fault(kind + "2;;", 3);
            fault(kind + "200", 3);
            fault(kind + "2 ", 2);
            fault(kind + "20d", 3);
            fault(kind + "2d", 2);
        }
        fault("d1", 1);
        fault("d0", 1);
        fault("dd", 1);
        fault("d;", 2);
        fault("d;;", 2);
        fault("d;f", 3);
        fault("d;f10;w", 7);
        fault("d;f10;w0", 7);
        fault("d; f10", 2);
        fault(" d", 0);
        fault("d ", 1);
    }

    private static void faultsOfAnySign() {
        for (int sign = 0; sign < 65536; sign += sign < 260 ? 1 : 127) {
            HaggleWash x = Check.streetOf(1);
            x.type((char) sign);
            boolean known = sign == 'f' || sign == 'h' || sign == 'w' || sign == 's';
            int due = known ? -101 : sign == 'd' ? 1 : -100;
            Check.due("readProgram of sign " + sign, x.readProgram(0), due);
            x = Check.streetOf(1);
            x.type('w');
            x.type('1');
            x.type((char) sign);
            boolean digit = '0' <= sign && sign <= '9';
            Check.due("readProgram of w1 and sign " + sign, x.readProgram(0),
                    digit ? 1 : sign == ';' ? -103 : -102);
            x = Check.streetOf(1);
            x.type('w');
            x.type((char) sign);
            Check.due("readProgram of w and sign " + sign, x.readProgram(0), digit && sign != '0' ? 1 : -101);
        }
    }

    private static String times(int count, String part) {
        return part.repeat(count);
    }

    private static void longTexts() {
        fault(times(30, "d;"), 60);
        fault(times(20, "w9;"), 60);
        fault(times(29, "d;") + "dd", 59);
        fault(times(29, "d;") + "w0", 59);
        answer(times(29, "d;") + "w1", -3);
        answer(times(29, "d;") + "d", -3);
    }

    private static void answer(String text, int due) {
        HaggleWash x = Check.streetOf(1);
        Check.write(x, text);
        Check.due("readProgram of " + text, x.readProgram(0), due);
        Check.due("phases", x.washer(0, 7), Math.max(0, due));
        Check.due("acts", x.count(13), due > 0 ? 2 : 1);
    }

    private static void numbers() {
        answer("f1", 1);
        answer("f60", 1);
        answer("f61", -2);
        answer("h15", -2);
        answer("h16", 1);
        answer("h95", 1);
        answer("h96", -2);
        answer("h1", -2);
        answer("w1", 1);
        answer("w99", 1);
        answer("s1", 1);
        answer("s30", 1);
        answer("s31", -2);
        answer("d", 1);
        answer("d;d;s31;d", -2);
    }

    private static void orderOfErrors() {
        answer(times(11, "d;") + "d", 12);
        answer(times(12, "d;") + "d", -3);
        answer(times(12, "d;") + "s31", -2);
        answer(times(12, "d;") + "s0", -100 - 25);
        HaggleWash x = new HaggleWash();
        Check.due("no house", x.readProgram(0), -1);
        x = Check.streetOf(1);
        Check.due("house -1", x.readProgram(-1), -1);
        Check.due("house 1", x.readProgram(1), -1);
        Check.run(x, 0, "w9");
        Check.due("runs", x.readProgram(0), -4);
        Check.write(x, times(12, "d;") + "d");
        Check.due("runs, too long", x.readProgram(0), -3);
        Check.write(x, "f99");
        Check.due("runs, number", x.readProgram(0), -2);
        Check.write(x, "f99;");
        Check.due("runs, fault", x.readProgram(0), -104);
        Check.due("house 1, fault", x.readProgram(1), -1);
        Check.due("the program stays", x.phase(0, 0, 1), 9);
    }

    private static void programsOfWashers() {
        HaggleWash x = Check.streetOf(1, 1);
        Check.program(x, 0, "f10;h60;w9;d;s30");
        String kinds = "fhwds";
        int[] numbers = {10, 60, 9, 0, 30};
        for (int i = 0; i < numbers.length; i++) {
            Check.due("kind", x.phase(0, i, 0), kinds.charAt(i));
            Check.due("number", x.phase(0, i, 1), numbers[i]);
        }
        Check.due("the text stays", x.count(14), 16);
        Check.due("the other one has none", x.washer(1, 7), 0);
        Check.due("the same text again", x.readProgram(0), 5);
        Check.due("an act each time", x.count(13), 4);
        Check.program(x, 0, "w2");
        Check.due("a shorter one", x.washer(0, 7), 1);
        Check.due("its second phase", x.phase(0, 1, 0), -1);
        x.undo();
        Check.due("undone", x.washer(0, 7), 5);
        Check.due("the text is no part of it", x.count(14), 2);

        Check.run(x, 1, "w1;w1;h50");
        x.pass(3);
        Check.due("is stuck", x.washer(1, 0), 2);
        Check.program(x, 1, "w7");
        Check.due("is stuck still", x.washer(1, 0), 2);
        Check.due("keeps its phase", x.washer(1, 1), 2);
        x.pass(2);
        Check.due("keeps its phase", x.washer(1, 1), 2);
        Check.due("gone", x.washer(1, 6), 0);
        Check.due("stop", x.stop(1), 2);
        Check.due("start", x.start(1), 1);
        Check.due("phase", x.washer(1, 1), 0);
    }
}
