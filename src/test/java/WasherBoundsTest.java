import java.util.Arrays;
import java.util.function.Supplier;
import java.util.function.ToIntFunction;

/** The edges of what is done with a washer and its door: promises 9 to 13, step 6, and the numbers of houses. */
public final class WasherBoundsTest {
    public static void main(String[] args) {
        numbersOfHouses();
        startThatIsRefused();
        startAtOnce();
        startOfOneThatWasStopped();
        stopThatIsRefused();
        stopLeavesWaterAndDoor();
        bailThatIsRefused();
        bailOfALitre();
        doorsThatAreRefused();
        safeHeatOfADoor();
        doorsThatStay();
        Check.end();
    }

    private static final String[] NAMES = {"readProgram", "start", "stop", "bail", "openDoor", "closeDoor", "house",
        "washer", "phase", "heatNext", "ask", "overIn", "freeIn", "haggle", "haggle for shares of"};

    private static int ofHouse(HaggleWash x, int call, int house) {
        switch (call) {
            case 0: return x.readProgram(house);
            case 1: return x.start(house);
            case 2: return x.stop(house);
            case 3: return x.bail(house);
            case 4: return x.openDoor(house);
            case 5: return x.closeDoor(house);
            case 6: return x.house(house, 1);
            case 7: return x.washer(house, 0);
            case 8: return x.phase(house, 0, 0);
            case 9: return x.heatNext(house);
            case 10: return x.ask(house, 1);
            case 11: return x.overIn(house);
            case 12: return x.freeIn(house);
            case 13: return x.haggle(house, house == 0 ? 1 : 0, 1, 5, 9);
            default: return x.haggle(house == 0 ? 1 : 0, house, 1, 5, 9);
        }
    }

    /** "numbered from 0": "UNKNOWN: There is no such house" */
    private static void numbersOfHouses() {
        for (int houses = 0; houses <= 8; houses++) {
            int[] shares = {1, 2, 3, 4, 5, 6, 7, 8};
            int there = houses;
            Supplier<HaggleWash> street = () -> {
                HaggleWash x = Check.streetOf(Arrays.copyOf(shares, there));
                for (int i = 0; i < there; i++) {
                    Check.program(x, i, "w9;d");
                }
                return x;
            };
            for (int call = 0; call < NAMES.length; call++) {
                int asked = call;
                int most = houses < 2 && call > 12 ? -1 : houses - 1;
                Bounds.known(NAMES[call], street, (x, n) -> ofHouse(x, asked, n), 0, most, -1);
            }
        }
        HaggleWash x = Check.streetOf(1, 1);
        x.undo();
        for (int call = 0; call < NAMES.length; call++) {
            Check.due(NAMES[call] + " of one taken back", ofHouse(x, call, 1), -1);
        }
    }

    /** Sees that a call is refused after something has been done. */
    private static void refused(String call, ToIntFunction<HaggleWash> done, ToIntFunction<HaggleWash> act, int due) {
        Bounds.refused(call, () -> {
            HaggleWash x = Bounds.busy();
            done.applyAsInt(x);
            return x;
        }, act, due);
    }

    /** "NOT_POSSIBLE if there is no power, it has no program, does not rest, or its door is open" */
    private static void startThatIsRefused() {
        Bounds.refused("start of one that runs", x -> x.start(0), -4);
        Bounds.refused("start of one that is stuck", x -> x.start(1), -4);
        Bounds.refused("start without a program", x -> x.start(2), -4);
        refused("start without a program, closed", x -> x.closeDoor(2), x -> x.start(2), -4);
        refused("start behind an open door", x -> x.readProgram(2), x -> x.start(2), -4);
        refused("start without power", x -> x.power(false), x -> x.start(3), -4);
        HaggleWash x = Bounds.busy();
        x.readProgram(2);
        x.closeDoor(2);
        Check.due("start behind a closed door", x.start(2), 2);
        Check.due("start behind a locked door", x.start(3), 3);
        Check.due("stop", x.stop(1), 1);
        Check.due("start of one that was stuck", x.start(1), 2);
        HaggleWash y = Bounds.busy();
        y.power(false);
        y.power(true);
        Check.due("start with power again", y.start(3), 3);
    }

    /** "from its first phase on; its door is locked then" */
    private static void startAtOnce() {
        HaggleWash x = Check.streetOf(1);
        for (String program : new String[] {"d", "d;d", "d;d;d;d;d;d;d;d;d;d;d", "d;d;d;d;d;d;d;d;d;d;d;d"}) {
            Check.run(x, 0, program);
            Check.due("door", x.washer(0, 5), 2);
            Check.due("phase", x.washer(0, 1), 0);
            Check.due("gone", x.washer(0, 6), 0);
            Check.due("overIn", x.overIn(0), x.washer(0, 7));
            x.pass(12);
            Check.due("door", x.washer(0, 5), 1);
        }
    }

    /** A washer that was stopped within a phase begins with 0 minutes, and with the water that it has. */
    private static void startOfOneThatWasStopped() {
        HaggleWash x = Check.streetOf(1);
        Check.run(x, 0, "f9;w5");
        x.pass(1);
        Check.due("stop within the first phase", x.stop(0), 0);
        x.start(0);
        Check.due("gone", x.washer(0, 6), 0);
        Check.due("water", x.washer(0, 2), 6);
        x.pass(2);
        Check.due("water", x.washer(0, 2), 15);
        x.pass(3);
        Check.due("gone", x.washer(0, 6), 3);
        Check.due("stop within the second phase", x.stop(0), 1);
        x.start(0);
        Check.due("phase", x.washer(0, 1), 0);
        Check.due("gone", x.washer(0, 6), 0);
    }

    /** "NONE if it rests" */
    private static void stopThatIsRefused() {
        Bounds.refused("stop of one that rests", x -> x.stop(2), -5);
        Bounds.refused("stop of one that rests, locked", x -> x.stop(3), -5);
        refused("stop of one that was stopped", x -> x.stop(0), x -> x.stop(0), -5);
        Check.due("stop of one that runs", Bounds.busy().stop(0), 1);
        Check.due("stop of one that is stuck", Bounds.busy().stop(1), 1);
        HaggleWash x = Check.streetOf(1);
        Check.run(x, 0, "d;d;d;d;d;d;d;d;d;d;d;d");
        Check.due("stop in the first phase", x.stop(0), 0);
        x.start(0);
        x.pass(11);
        Check.due("stop in the last phase", x.stop(0), 11);
    }

    /** "it rests then; water and door stay as they are" */
    private static void stopLeavesWaterAndDoor() {
        for (int house = 0; house < 2; house++) {
            HaggleWash x = Bounds.busy();
            int water = x.washer(house, 2);
            int warmth = x.washer(house, 4);
            int door = x.washer(house, 5);
            x.stop(house);
            Check.due("state", x.washer(house, 0), 0);
            Check.due("phase", x.washer(house, 1), -5);
            Check.due("gone", x.washer(house, 6), -5);
            Check.due("water", x.washer(house, 2), water);
            Check.due("warmth", x.washer(house, 4), warmth);
            Check.due("door", x.washer(house, 5), door);
            Check.due("programs that came to their ends", x.house(house, 5), 0);
        }
    }

    /** "NOT_POSSIBLE if the washer runs; NONE if there is no water" */
    private static void bailThatIsRefused() {
        Bounds.refused("bail of one that runs", x -> x.bail(0), -4);
        Bounds.refused("bail without water", x -> x.bail(2), -5);
        refused("bail of one that runs, without water", x -> {
            x.readProgram(2);
            x.closeDoor(2);
            return x.start(2);
        }, x -> x.bail(2), -4);
        refused("bail once more", x -> x.bail(1), x -> x.bail(1), -5);
        Check.due("bail of one that is stuck", Bounds.busy().bail(1), 6);
        Check.due("bail behind a locked door", Bounds.busy().bail(3), 1);
    }

    /** "its warmth is 0 then" */
    private static void bailOfALitre() {
        for (int litres : new int[] {1, 2, 59, 60}) {
            HaggleWash x = Check.streetOf(1);
            Check.run(x, 0, "f" + litres + ";s1");
            x.pass(11);
            Check.due("bail", x.bail(0), litres);
            Check.due("water", x.washer(0, 2), 0);
            Check.due("warmth", x.washer(0, 4), 0);
            Check.due("temperature", x.washer(0, 3), 15);
            Check.due("litres so far", x.washer(0, 8), litres);
        }
    }

    /** "NOT_POSSIBLE if it is locked; NONE if it is open", "NONE if it is not open" */
    private static void doorsThatAreRefused() {
        Bounds.refused("openDoor of a locked one that runs", x -> x.openDoor(0), -4);
        Bounds.refused("openDoor of a locked one that rests", x -> x.openDoor(3), -4);
        Bounds.refused("openDoor of an open one", x -> x.openDoor(2), -5);
        Bounds.refused("closeDoor of a closed one", x -> x.closeDoor(1), -5);
        Bounds.refused("closeDoor of a locked one that runs", x -> x.closeDoor(0), -5);
        Bounds.refused("closeDoor of a locked one that rests", x -> x.closeDoor(3), -5);
        Check.due("openDoor of a closed one", Bounds.busy().openDoor(1), 15);
        Check.due("closeDoor of an open one", Bounds.busy().closeDoor(2), 1);
    }

    /** A litre of 44 degrees, which never cools, in a washer that rests. */
    private static HaggleWash warm(int safeHeat) {
        HaggleWash x = Check.streetOf(1);
        Check.run(x, 0, "f1;h44");
        x.set(3, safeHeat);
        x.pass(1);
        Check.due("runs", x.washer(0, 0), 1);
        Check.due("locked as long as it runs", x.washer(0, 5), 2);
        x.pass(1);
        Check.due("rests", x.washer(0, 0), 0);
        return x;
    }

    /** "does not run, and whose temperature is not above the safe heat, is closed from then on" */
    private static void safeHeatOfADoor() {
        Check.due("below the temperature", warm(43).washer(0, 5), 2);
        Check.due("the temperature", warm(44).washer(0, 5), 1);
        Check.due("above the temperature", warm(45).washer(0, 5), 1);
        HaggleWash x = warm(43);
        x.set(3, 44);
        Check.due("not before the minute", x.washer(0, 5), 2);
        x.power(false);
        x.pass(1);
        Check.due("not without power", x.washer(0, 5), 2);
        x.power(true);
        x.pass(1);
        Check.due("closed", x.washer(0, 5), 1);
        HaggleWash y = Check.streetOf(1);
        Check.run(y, 0, "f30;h21");
        y.set(3, 20);
        y.pass(8);
        // 21 degrees lose (21 - 15) * 30 / 30 in the minute in which it ends
        Check.due("by the temperature behind the loss", y.washer(0, 3), 20);
        Check.due("by the temperature behind the loss", y.washer(0, 5), 1);
    }

    /** "the door of each washer that is locked": an open one stays open, one that runs stays locked */
    private static void doorsThatStay() {
        HaggleWash x = Bounds.busy();
        x.pass(1);
        int[] doors = {2, 1, 0, 2};
        for (int house = 0; house < doors.length; house++) {
            Check.due("door " + house, x.washer(house, 5), doors[house]);
        }
        HaggleWash y = Check.streetOf(1);
        Check.run(y, 0, "w99");
        y.pass(60);
        Check.due("locked as long as it runs", y.washer(0, 5), 2);
    }
}
