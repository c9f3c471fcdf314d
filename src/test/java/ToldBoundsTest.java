import java.util.function.Supplier;

/** The edges of what is told: promises 18 to 22 and 25 to 27. */
public final class ToldBoundsTest {
    public static void main(String[] args) {
        numbersOfQuestions();
        unknownBeforeBad();
        numbersOfPhases();
        noneWhileItRests();
        overWithinTheBound();
        overInThatIsRefused();
        freeWithinTheBound();
        freeInOfAnyDoor();
        forecastsWithoutPower();
        forecastOfTheOthers();
        emptyStreet();
        fullStreet();
        Check.end();
    }

    /** "BAD_VALUE: Another argument is out of range." */
    private static void numbersOfQuestions() {
        for (int house = 0; house < 4; house++) {
            int asked = house;
            Bounds.known("house", Bounds::busy, (x, n) -> x.house(asked, n), 0, 9, -2);
            Bounds.known("washer", Bounds::busy, (x, n) -> x.washer(asked, n), 0, 8, -2);
        }
        Bounds.known("phase", Bounds::busy, (x, n) -> x.phase(0, 2, n), 0, 1, -2);
        Bounds.known("boiler", Bounds::busy, (x, n) -> x.boiler(n), 0, 7, -2);
        Bounds.known("lease", Bounds::busy, (x, n) -> x.lease(0, n), 0, 4, -2);
        Bounds.known("count", Bounds::busy, (x, n) -> x.count(n), 0, 14, -2);
    }

    /** "Where several errors can apply, the order of the @return line is the order of the checks." */
    private static void unknownBeforeBad() {
        int[] houses = {-1, 4, 8};
        int[] whats = {-1, 15};
        for (int house : houses) {
            for (int what : whats) {
                Bounds.refused("house", x -> x.house(house, what), -1);
                Bounds.refused("washer", x -> x.washer(house, what), -1);
                Bounds.refused("phase", x -> x.phase(house, 0, what), -1);
                Bounds.refused("phase", x -> x.phase(0, 3, what), -1);
                Bounds.refused("phase", x -> x.phase(0, -1, what), -1);
                Bounds.refused("phase without a program", x -> x.phase(2, 0, what), -1);
                Bounds.refused("lease", x -> x.lease(1, what), -1);
                Bounds.refused("ask", x -> x.ask(house, what), -1);
            }
        }
    }

    /** "phase: a phase of its program, from 0", "UNKNOWN (house or phase)" */
    private static void numbersOfPhases() {
        for (int phases = 0; phases <= 12; phases++) {
            int there = phases;
            Supplier<HaggleWash> street = () -> {
                HaggleWash x = Check.streetOf(1, 1);
                if (there > 0) {
                    Check.program(x, 0, "w9" + ";w9".repeat(there - 1));
                }
                Check.program(x, 1, "d;d;d;d;d;d;d;d;d;d;d;d");
                return x;
            };
            Check.due("phases", street.get().washer(0, 7), phases);
            Bounds.known("phase", street, (x, n) -> x.phase(0, n, 0), 0, phases - 1, -1);
            Bounds.known("phase", street, (x, n) -> x.phase(0, n, 1), 0, phases - 1, -1);
        }
    }

    /** "1 for its phase from 0 (NONE if it rests)", "6 for the minutes .. (NONE if it rests)" */
    private static void noneWhileItRests() {
        int[] states = {1, 2, 0, 0};
        int[] phases = {1, 1, -5, -5};
        int[] gone = {3, 0, -5, -5};
        int[] counts = {13, 1, 4, 1, 1, 2, 1, 1, 1, 0, 0, 0, 18, 4, 4};
        HaggleWash x = Bounds.busy();
        for (int what = 0; what < counts.length; what++) {
            Check.due("count(" + what + ")", x.count(what), counts[what]);
        }
        for (int house = 0; house < states.length; house++) {
            Check.due("state", x.washer(house, 0), states[house]);
            Check.due("phase", x.washer(house, 1), phases[house]);
            Check.due("gone", x.washer(house, 6), gone[house]);
        }
    }

    /** A program of so many minutes: washing, but for the last one. */
    private static HaggleWash washing(int minutes) {
        HaggleWash x = Check.streetOf(1, 1);
        StringBuilder program = new StringBuilder();
        for (int left = minutes - 1; left > 0; left -= 99) {
            program.append('w').append(Math.min(99, left)).append(';');
        }
        Check.run(x, 0, program + "d");
        return x;
    }

    /** "NONE if it does not within 600 minutes" */
    private static void overWithinTheBound() {
        for (int minutes : new int[] {1, 2, 60, 99, 100, 598, 599, 600}) {
            HaggleWash x = washing(minutes);
            Check.due("overIn", x.overIn(0), minutes);
            Check.passLong(x, minutes - 1);
            Check.due("the last minute", x.overIn(0), 1);
            Check.due("runs", x.washer(0, 0), 1);
            x.pass(1);
            Check.due("rests", x.washer(0, 0), 0);
        }
        for (int minutes : new int[] {601, 602, 700, 1000}) {
            Bounds.refused("overIn of " + minutes, () -> washing(minutes), x -> x.overIn(0), -5);
        }
        HaggleWash x = washing(601);
        x.pass(1);
        Check.due("a minute less", x.overIn(0), 600);
    }

    /** "NOT_POSSIBLE if the washer does not run" */
    private static void overInThatIsRefused() {
        Bounds.refused("overIn of one that is stuck", x -> x.overIn(1), -4);
        Bounds.refused("overIn without a program", x -> x.overIn(2), -4);
        Bounds.refused("overIn of one that rests", x -> x.overIn(3), -4);
        Bounds.refused("overIn of one that will be stuck", () -> {
            HaggleWash x = Check.streetOf(1);
            Check.run(x, 0, "f1;s1;d");
            return x;
        }, x -> x.overIn(0), -5);
        HaggleWash x = Check.streetOf(1);
        Check.run(x, 0, "f60;h95;d");
        x.set(1, 0);
        Check.due("its store is not enough", x.overIn(0), -5);
        HaggleWash y = Check.streetOf(1);
        Check.run(y, 0, "w1;h50");
        Check.due("will be stuck", y.overIn(0), -5);
        y.pass(1);
        Check.due("will be stuck in the minute that comes", y.overIn(0), -5);
        y.pass(1);
        Check.due("is stuck", y.overIn(0), -4);
    }

    /** "Returns the minutes, 0 if it is not locked now; .. NONE if it is locked for 600 minutes" */
    private static void freeWithinTheBound() {
        for (int minutes : new int[] {1, 2, 60, 99, 100, 598, 599, 600}) {
            HaggleWash x = washing(minutes);
            Check.due("freeIn", x.freeIn(0), minutes);
            Check.passLong(x, minutes - 1);
            Check.due("the last minute", x.freeIn(0), 1);
            Check.due("locked", x.washer(0, 5), 2);
            x.pass(1);
            Check.due("closed", x.washer(0, 5), 1);
            Check.due("freeIn", x.freeIn(0), 0);
        }
        for (int minutes : new int[] {601, 602, 1000}) {
            Bounds.refused("freeIn of " + minutes, () -> washing(minutes), x -> x.freeIn(0), -5);
        }
    }

    private static void freeInOfAnyDoor() {
        HaggleWash x = Bounds.busy();
        Check.due("closed", x.freeIn(1), 0);
        Check.due("open", x.freeIn(2), 0);
        // a litre that loses a unit a minute as long as it has 45 degrees; it stays at 44
        Bounds.refused("locked for ever", y -> y.freeIn(3), -5);
        x.set(3, 44);
        int free = x.freeIn(3);
        x.pass(free - 1);
        Check.due("locked", x.washer(3, 5), 2);
        x.pass(1);
        Check.due("closed", x.washer(3, 5), 1);
        Check.due("of 44 degrees", x.washer(3, 3), 44);
        HaggleWash z = Check.streetOf(1);
        Check.run(z, 0, "w1;h50;w9");
        Check.due("when it is stuck", z.freeIn(0), 2);
        z.pass(1);
        z.stop(0);
        Check.due("behind the minute that comes", z.freeIn(0), 1);
    }

    /** "(the power stays as it is)", "(0 without power)", "(also without power)" */
    private static void forecastsWithoutPower() {
        Supplier<HaggleWash> dark = () -> {
            HaggleWash x = Bounds.busy();
            x.power(false);
            return x;
        };
        Bounds.refused("overIn without power", dark, x -> x.overIn(0), -5);
        Bounds.refused("freeIn of one that runs without power", dark, x -> x.freeIn(0), -5);
        Bounds.refused("freeIn of one that rests without power", dark, x -> x.freeIn(3), -5);
        Bounds.refused("overIn of one that is stuck without power", dark, x -> x.overIn(1), -4);
        Bounds.refused("heatNext without power", dark, x -> x.heatNext(0), 0);
        Bounds.refused("heatNext of no house without power", dark, x -> x.heatNext(4), -1);
        Check.due("freeIn of a closed door", dark.get().freeIn(1), 0);
        Check.due("freeIn of an open door", dark.get().freeIn(2), 0);
        Check.due("wanted", dark.get().boiler(6), Bounds.busy().boiler(6));
        Check.holds("some is wanted", dark.get().boiler(6) > 0);
    }

    /** "if they pass now, and nothing else happens": leases run out, and the others go on */
    private static void forecastOfTheOthers() {
        for (int minutes = 1; minutes <= 12; minutes++) {
            HaggleWash x = Check.streetOf(1, 1);
            Check.run(x, 0, "f6;h60;d");
            Check.run(x, 1, "f6;h60;d");
            x.set(2, 100);
            Check.due("deal", x.haggle(0, 1, 1, 10, minutes), 10);
            int over = x.overIn(0);
            int free = x.freeIn(1);
            for (int i = 1; i <= Math.max(over, free); i++) {
                x.pass(1);
                Check.due("state in minute " + i, x.washer(0, 0), i < over ? 1 : 0);
                Check.due("door in minute " + i, x.washer(1, 5), i < free ? 2 : 1);
            }
        }
    }

    private static void emptyStreet() {
        for (int what = 0; what <= 14; what++) {
            Check.due("count(" + what + ")", new HaggleWash().count(what), what == 1 ? 1 : 0);
        }
        int[] boiler = {10000, 20000, 200, 300, 0, 0, 0, 40};
        for (int what = 0; what < boiler.length; what++) {
            Check.due("boiler(" + what + ")", new HaggleWash().boiler(what), boiler[what]);
        }
        HaggleWash x = new HaggleWash();
        Check.due("pass", x.pass(60), 0);
        Check.due("power", x.power(false), 0);
        Check.due("power", x.power(true), 0);
        Check.due("minute", x.count(0), 60);
        Check.due("house", x.house(0, 0), -1);
        Check.due("lease", x.lease(0, 0), -1);
    }

    /** As many houses, leases, states and characters as there can be. */
    private static void fullStreet() {
        HaggleWash x = Check.streetOf(20, 19, 18, 17, 16, 15, 14, 13);
        Check.write(x, "w99;d");
        for (int house = 0; house < 8; house++) {
            x.readProgram(house);
            x.start(house);
        }
        for (int i = 0; i < 10; i++) {
            Check.holds("deal", x.haggle(i % 8, (i + 1) % 8, 1, 90, 240) > 0);
        }
        x.haggle(0, 1, 1, 1, 1);
        Check.write(x, "x".repeat(60));
        int[] due = {0, 1, 8, 8, 0, 8, 0, 10, 10, 0, 0, 0, 132, 4, 60};
        for (int what = 0; what < due.length; what++) {
            Check.due("count(" + what + ")", x.count(what), due[what]);
        }
        x.pass(60);
        x.pass(39);
        x.pass(1);
        Check.due("programs that came to their ends", x.count(11), 8);
        for (int house = 0; house < 8; house++) {
            x.openDoor(house);
        }
        Check.due("open doors", x.count(6), 8);
        Check.due("locked doors", x.count(5), 0);
        Check.due("washers that run", x.count(3), 0);
    }
}
