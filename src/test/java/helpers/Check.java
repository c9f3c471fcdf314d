import java.util.function.IntConsumer;

/** Compares answers with those that are due, and ends a test with exit code 1 if one was wrong. */
final class Check {
    private static int wrong = 0;
    private static int asked = 0;

    private Check() {
    }

    static void due(String call, long got, long want) {
        asked++;
        if (got != want) {
            wrong++;
            System.out.println(call + " answered " + got + ", due is " + want);
        }
    }

    static void holds(String what, boolean is) {
        due(what, is ? 1 : 0, 1);
    }

    /** Types a text in place of the one that was. */
    static void write(HaggleWash x, String text) {
        x.clearText();
        for (char c : text.toCharArray()) {
            x.type(c);
        }
    }

    /** Gives a washer a program; the answer must be the number of its phases. */
    static void program(HaggleWash x, int house, String text) {
        write(x, text);
        due("readProgram of " + text, x.readProgram(house), text.split(";").length);
    }

    /** Gives a washer a program and starts it. */
    static void run(HaggleWash x, int house, String text) {
        program(x, house, text);
        due("start of " + text, x.start(house), text.split(";").length);
    }

    static HaggleWash streetOf(int... shares) {
        HaggleWash x = new HaggleWash();
        for (int i = 0; i < shares.length; i++) {
            due("addHouse", x.addHouse(shares[i], 5, 1000), i);
        }
        return x;
    }

    /** Lets more minutes pass than one call can. */
    static void passLong(HaggleWash x, int minutes) {
        for (int left = minutes; left > 0; left -= 60) {
            x.pass(Math.min(60, left));
        }
    }

    /** Everything that the street tells; two states that tell the same are taken for the same one. */
    static String told(HaggleWash x) {
        StringBuilder all = new StringBuilder();
        IntConsumer put = value -> all.append(value).append(' ');
        for (int what = 0; what <= 12; what++) {
            put.accept(x.count(what));
        }
        for (int what = 0; what <= 7; what++) {
            put.accept(x.boiler(what));
        }
        for (int house = 0; house < x.count(2); house++) {
            for (int what = 0; what <= 9; what++) {
                put.accept(x.house(house, what));
            }
            for (int what = 0; what <= 8; what++) {
                put.accept(x.washer(house, what));
            }
            for (int phase = 0; phase < x.washer(house, 7); phase++) {
                put.accept(x.phase(house, phase, 0));
                put.accept(x.phase(house, phase, 1));
            }
        }
        for (int lease = 0; lease < x.count(7); lease++) {
            for (int what = 0; what <= 4; what++) {
                put.accept(x.lease(lease, what));
            }
        }
        return all.toString();
    }

    static void end() {
        System.out.println(wrong + " of " + asked + " answers are not as due");
        if (wrong != 0) {
            System.exit(1);
        }
    }
}
