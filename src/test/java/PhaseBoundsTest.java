/** The edges of phases, of water and of warmth: "PROGRAMS", steps 3 to 5, the temperature. */
public final class PhaseBoundsTest {
    public static void main(String[] args) {
        litresOfAFill();
        missingInThisPhase();
        mostHeatWanted();
        leastHeatWanted();
        overAtItsDegrees();
        heatWithoutWater();
        minutesOfAWash();
        litresOfADrain();
        warmthThatStays();
        minutesOfASpin();
        spinWithWater();
        atLeastAMinute();
        behindTheLastPhase();
        temperatureRoundedDown();
        aboveFifteenDegrees();
        lossRoundedDown();
        stuckInTheirMinute();
        Check.end();
    }

    private static HaggleWash running(String program) {
        HaggleWash x = Check.streetOf(1);
        Check.run(x, 0, program);
        return x;
    }

    private static HaggleWash running(String program, int minutes) {
        HaggleWash x = running(program);
        x.pass(minutes);
        return x;
    }

    private static void passUntilPhase2(HaggleWash x) {
        for (int i = 0; i < 60 && x.washer(0, 1) < 2; i++) {
            x.pass(1);
        }
        Check.due("phase", x.washer(0, 1), 2);
    }

    private static void washer(String when, HaggleWash x, int water, int warmth, int phase, int gone) {
        Check.due(when + ", water", x.washer(0, 2), water);
        Check.due(when + ", warmth", x.washer(0, 4), warmth);
        Check.due(when + ", phase", x.washer(0, 1), phase);
        Check.due(when + ", gone", x.washer(0, 6), gone);
    }

    /** "6 litres come in, or those that are missing .. if they are fewer; .. 60 units .. over when all have come" */
    private static void litresOfAFill() {
        for (int litres = 1; litres <= 60; litres++) {
            HaggleWash x = running("f" + litres + ";w9");
            int minutes = (litres + 5) / 6;
            for (int minute = 1; minute <= minutes; minute++) {
                x.pass(1);
                int water = Math.min(litres, 6 * minute);
                boolean over = minute == minutes;
                washer("fill " + litres, x, water, 60 * water, over ? 1 : 0, over ? 0 : minute);
                Check.due("litres so far", x.washer(0, 8), water);
            }
            x.pass(1);
            washer("behind fill " + litres, x, litres, 60 * litres, 1, 1);
        }
    }

    /** "those that are missing in this phase" */
    private static void missingInThisPhase() {
        HaggleWash x = running("f7;f5;f6;w1");
        int[][] rows = {{6, 0, 1}, {7, 1, 0}, {12, 2, 0}, {18, 3, 0}};
        for (int[] row : rows) {
            x.pass(1);
            washer("fills", x, row[0], 60 * row[0], row[1], row[2]);
        }
        x.pass(1);
        x.start(0);
        x.pass(2);
        washer("started anew", x, 25, 60 * 25, 1, 0);
        Check.due("litres so far", x.washer(0, 8), 25);
        HaggleWash y = running("f13", 2);
        y.power(false);
        y.pass(9);
        y.power(true);
        y.pass(1);
        Check.due("the litre that was missing", y.washer(0, 2), 13);
    }

    /** Two litres in a phase h behind another one: what is lost between them makes all numbers of units. */
    private static void wants(String program, int missing, int wanted, int phaseThen) {
        HaggleWash x = running(program);
        passUntilPhase2(x);
        int degrees = x.phase(0, 2, 1);
        Check.due("missing in " + program, 8 * degrees - x.washer(0, 4), missing);
        Check.due("wanted in " + program, x.boiler(6), wanted);
        Check.due("heatNext in " + program, x.heatNext(0), wanted);
        Check.due("pass in " + program, x.pass(1), wanted);
        Check.due("phase behind " + program, x.washer(0, 1), phaseThen);
    }

    /** "but .. at most 250" */
    private static void mostHeatWanted() {
        wants("f2;h30;h61;w9", 249, 249, 3);
        wants("f2;h45;h76;w9", 250, 250, 3);
        wants("f2;h60;h91;w9", 251, 250, 2);
    }

    /** "but at least 0" */
    private static void leastHeatWanted() {
        wants("f2;h30;h30;w9", 1, 1, 3);
        wants("f2;h29;h29;w9", 0, 0, 3);
        wants("f2;h30;h29;w9", -7, 0, 3);
        wants("f2;h95;h16;w9", 128 - (760 - 5), 0, 3);
        HaggleWash x = Check.streetOf(1, 1);
        Check.run(x, 0, "f60;h20;h16");
        Check.run(x, 1, "f60;h95");
        x.pass(10);
        passUntilPhase2(x);
        Check.due("less than 0 takes nothing from the others", x.boiler(6), 250);
        Check.due("less than 0 takes nothing from the others", x.heatNext(1), 250);
    }

    /** "It is over when the temperature is not below its degrees." */
    private static void overAtItsDegrees() {
        int[][] rows = {{19, 79, 19, 1}, {20, 80, 20, 2}, {21, 80, 20, 2}};
        for (int[] row : rows) {
            HaggleWash x = running("f1;h20;w9", 1);
            x.set(2, row[0]);
            x.pass(1);
            Check.due("warmth with outflow " + row[0], x.washer(0, 4), row[1]);
            Check.due("temperature", x.washer(0, 3), row[2]);
            Check.due("phase", x.washer(0, 1), row[3]);
        }
        HaggleWash y = running("f30;h16;w9", 6);
        Check.due("over before it loses", y.washer(0, 1), 2);
        Check.due("temperature behind its loss", y.washer(0, 3), 15);
    }

    /** "heat, .. without water the washer is stuck" */
    private static void heatWithoutWater() {
        HaggleWash x = running("w1;h16;w1");
        x.pass(1);
        washer("not stuck yet", x, 0, 0, 1, 0);
        Check.due("runs", x.washer(0, 0), 1);
        Check.due("wants", x.boiler(6), 0);
        Check.due("pass", x.pass(1), 0);
        Check.due("is stuck", x.washer(0, 0), 2);
        washer("is stuck", x, 0, 0, 1, 0);
        Check.due("one litre is enough", running("f1;h16;w9", 2).washer(0, 0), 1);
    }

    /** "wash, with 1 to 99 minutes: it is over when they have passed" */
    private static void minutesOfAWash() {
        for (int minutes = 1; minutes <= 99; minutes++) {
            HaggleWash x = running("w" + minutes + ";w9");
            Check.passLong(x, minutes - 1);
            washer("before the end of " + minutes, x, 0, 0, 0, minutes - 1);
            x.pass(1);
            washer("at the end of " + minutes, x, 0, 0, 1, 0);
        }
    }

    /** "12 litres go out, or those that there are; .. over when there is no water" */
    private static void litresOfADrain() {
        for (int litres = 1; litres <= 60; litres++) {
            HaggleWash x = running("f" + litres + ";d;w9", (litres + 5) / 6);
            int minutes = (litres + 11) / 12;
            for (int minute = 1; minute <= minutes; minute++) {
                x.pass(1);
                int water = Math.max(0, litres - 12 * minute);
                boolean over = minute == minutes;
                washer("drain " + litres, x, water, 60 * water, over ? 2 : 1, over ? 0 : minute);
            }
        }
        washer("drain of nothing", running("d;w9", 1), 0, 0, 1, 0);
    }

    /** "warmth * (water that is left) / (water that was there), rounded down" */
    private static void warmthThatStays() {
        HaggleWash x = running("f13;h40;d;w9", 3 + 6);
        // 4 * 13 * 40, less (40 - 15) * 13 / 30
        washer("hot", x, 13, 2080 - 10, 2, 0);
        x.pass(1);
        // 2070 / 13, which is of 39 degrees, so that a litre loses nothing
        washer("a litre is left", x, 1, 159, 2, 1);
        x.pass(1);
        washer("nothing is left", x, 0, 0, 3, 0);
        Check.due("temperature without water", x.washer(0, 3), 15);
    }

    /** "spin, with 1 to 30 minutes: .. It is over when they have passed." */
    private static void minutesOfASpin() {
        for (int minutes = 1; minutes <= 30; minutes++) {
            HaggleWash x = running("s" + minutes + ";w9");
            x.pass(minutes - 1);
            washer("before the end of " + minutes, x, 0, 0, 0, minutes - 1);
            x.pass(1);
            washer("at the end of " + minutes, x, 0, 0, 1, 0);
        }
    }

    /** "spin, .. with water the washer is stuck" */
    private static void spinWithWater() {
        HaggleWash x = running("f1;s1;w9", 1);
        Check.due("not stuck yet", x.washer(0, 0), 1);
        x.pass(1);
        Check.due("is stuck", x.washer(0, 0), 2);
        washer("is stuck", x, 1, 60, 1, 0);
        Check.due("without water", running("f12;d;s1;w9", 4).washer(0, 1), 3);
        Check.due("with a litre less out", running("f13;d;s1;w9", 6).washer(0, 1), 3);
    }

    /** "A phase takes at least one minute. When one is over, the next one begins in the next minute" */
    private static void atLeastAMinute() {
        HaggleWash x = running("d;d;f1;h16;h16;d;s1");
        int[] phases = {1, 2, 3, 4, 5, 6, -5};
        for (int phase : phases) {
            x.pass(1);
            Check.due("phase", x.washer(0, 1), phase);
            Check.due("gone", x.washer(0, 6), phase < 0 ? -5 : 0);
        }
    }

    /** "behind the last one the washer rests" */
    private static void behindTheLastPhase() {
        String[] programs = {"f1", "f1;h16", "w1", "d", "s1", "d;d;d;d;d;d;d;d;d;d;d;d"};
        int[] minutes = {1, 2, 1, 1, 1, 12};
        for (int i = 0; i < programs.length; i++) {
            HaggleWash x = running(programs[i]);
            x.pass(Math.max(1, minutes[i] - 1));
            boolean over = minutes[i] == 1;
            Check.due("state in " + programs[i], x.washer(0, 0), over ? 0 : 1);
            Check.due("programs", x.house(0, 5), over ? 1 : 0);
            x.pass(1);
            Check.due("rests behind " + programs[i], x.washer(0, 0), 0);
            Check.due("its phases", x.washer(0, 7), programs[i].split(";").length);
            Check.due("programs", x.house(0, 5), 1);
            x.pass(60);
            Check.due("programs", x.house(0, 5), 1);
        }
    }

    /** "Its temperature is warmth / (4 * water), rounded down; 15 if it has no water." */
    private static void temperatureRoundedDown() {
        for (int outflow = 10; outflow <= 30; outflow++) {
            HaggleWash x = running("f1;h95;w9", 1);
            x.set(2, outflow);
            x.pass(1);
            Check.due("warmth", x.washer(0, 4), 60 + outflow);
            Check.due("temperature", x.washer(0, 3), (60 + outflow) / 4);
        }
        HaggleWash x = Bounds.busy();
        Check.holds("hot", x.washer(3, 3) > 40);
        x.bail(3);
        Check.due("without water", x.washer(3, 3), 15);
        Check.due("without warmth", x.washer(3, 4), 0);
        x.power(false);
        x.pass(1);
        Check.due("does not cool below", x.washer(3, 4), 0);
    }

    /** "whose temperature is above 15 loses ..." */
    private static void aboveFifteenDegrees() {
        int[][] rows = {{119, 15, 0}, {120, 16, 1}, {121, 16, 1}, {239, 16, 1}, {240, 17, 2}};
        for (int[] row : rows) {
            HaggleWash x = running("f30;h95", 5);
            x.set(2, row[0]);
            x.pass(1);
            Check.due("warmth with " + row[0], x.washer(0, 4), 1800 + row[0] - row[2]);
            Check.due("it was of " + row[1] + " degrees", (1800 + row[0]) / 120, row[1]);
        }
        HaggleWash x = running("f60;w9", 10);
        x.pass(9);
        Check.due("15 degrees stay", x.washer(0, 4), 3600);
    }

    /** "(temperature - 15) * water / 30 units of warmth, rounded down" */
    private static void lossRoundedDown() {
        int[][] rows = {{29, 0}, {30, 1}, {31, 1}, {59, 1}, {60, 2}};
        for (int[] row : rows) {
            HaggleWash x = running("f" + row[0] + ";h16;w9", (row[0] + 5) / 6);
            int heated = x.pass(1);
            Check.due("heat", heated, 4 * row[0]);
            Check.due("warmth of " + row[0], x.washer(0, 4), 64 * row[0] - row[1]);
        }
        int[][] hot = {{44, 0}, {45, 1}, {46, 1}, {74, 1}, {75, 2}, {76, 2}};
        for (int[] row : hot) {
            HaggleWash x = running("f1;h" + row[0] + ";w9", 2);
            Check.due("warmth of " + row[0] + " degrees", x.washer(0, 4), 4 * row[0] - row[1]);
        }
    }

    /** "if it cannot (see above), it is stuck": it does nothing in this minute, and its door is free with it. */
    private static void stuckInTheirMinute() {
        HaggleWash x = running("f1;h44;s1;w9", 3);
        Check.due("is stuck", x.washer(0, 0), 2);
        Check.due("too hot", x.washer(0, 5), 2);
        HaggleWash y = running("f1;h40;s1;w9", 3);
        Check.due("is stuck", y.washer(0, 0), 2);
        Check.due("not too hot", y.washer(0, 5), 1);
        int before = y.washer(0, 4);
        y.pass(60);
        washer("stays stuck", y, 1, before, 2, 0);
        Check.due("no program came to its end", y.count(11), 0);
    }
}
