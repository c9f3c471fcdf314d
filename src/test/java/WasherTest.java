/** Promises 9 to 13. */
public final class WasherTest {
    public static void main(String[] args) {
        unknownHouses();
        start();
        startAnew();
        startOfHotWasher();
        stop();
        bail();
        bailOfHotWasher();
        doors();
        warmDoor();
        Check.end();
    }

    private static void unknownHouses() {
        HaggleWash x = Check.streetOf(1, 1);
        int[] houses = {-1, 2, 8, Integer.MIN_VALUE, Integer.MAX_VALUE};
        for (int house : houses) {
            Check.due("start", x.start(house), -1);
            Check.due("stop", x.stop(house), -1);
            Check.due("bail", x.bail(house), -1);
            Check.due("openDoor", x.openDoor(house), -1);
            Check.due("closeDoor", x.closeDoor(house), -1);
        }
        x.undo();
        Check.due("house that was taken back", x.openDoor(1), -1);
    }

    private static void start() {
        HaggleWash x = Check.streetOf(1);
        Check.due("no program", x.start(0), -4);
        Check.program(x, 0, "w1;w2");
        Check.due("openDoor", x.openDoor(0), 15);
        Check.due("open", x.start(0), -4);
        x.closeDoor(0);
        x.power(false);
        Check.due("no power", x.start(0), -4);
        x.power(true);
        x.undo();
        x.undo();
        int states = x.count(13);
        Check.due("start", x.start(0), 2);
        Check.due("act", x.count(13), states + 1);
        int[] washer = {1, 0, 0, 15, 0, 2, 0, 2, 0};
        for (int what = 0; what < washer.length; what++) {
            Check.due("washer(0, " + what + ")", x.washer(0, what), washer[what]);
        }
        Check.due("start of a running one", x.start(0), -4);
        Check.due("count of running", x.count(3), 1);
        Check.due("count of locked", x.count(5), 1);
        Check.due("undo", x.undo(), states);
        Check.due("closed", x.washer(0, 5), 1);
        Check.due("rests", x.washer(0, 0), 0);
    }

    private static void startAnew() {
        HaggleWash x = Check.streetOf(1);
        Check.run(x, 0, "w2;w5");
        x.pass(4);
        Check.due("stop", x.stop(0), 1);
        Check.due("start", x.start(0), 2);
        Check.due("phase", x.washer(0, 1), 0);
        Check.due("gone", x.washer(0, 6), 0);
        Check.due("overIn", x.overIn(0), 7);
        x.pass(7);
        Check.due("start again", x.start(0), 2);
        Check.due("phase", x.washer(0, 1), 0);
        HaggleWash y = Check.streetOf(1);
        Check.run(y, 0, "f6;s1");
        y.pass(2);
        Check.due("start of a stuck one", y.start(0), -4);
    }

    private static void startOfHotWasher() {
        HaggleWash x = Check.streetOf(1);
        Check.run(x, 0, "f6;h95");
        x.pass(6);
        x.stop(0);
        Check.due("locked", x.washer(0, 5), 2);
        Check.due("start of a locked one", x.start(0), 2);
        x.pass(1);
        Check.due("water", x.washer(0, 2), 12);
        Check.due("litres", x.washer(0, 8), 12);
    }

    private static void stop() {
        HaggleWash x = Check.streetOf(1);
        Check.due("stop of a resting one", x.stop(0), -5);
        Check.run(x, 0, "f12;w9");
        x.pass(1);
        int states = x.count(13);
        Check.due("stop", x.stop(0), 0);
        Check.due("act", x.count(13), Math.min(4, states + 1));
        Check.due("rests", x.washer(0, 0), 0);
        Check.due("phase", x.washer(0, 1), -5);
        Check.due("gone", x.washer(0, 6), -5);
        Check.due("water stays", x.washer(0, 2), 6);
        Check.due("warmth stays", x.washer(0, 4), 360);
        Check.due("door stays", x.washer(0, 5), 2);
        Check.due("stop again", x.stop(0), -5);
        Check.due("freeIn", x.freeIn(0), 1);
        x.start(0);
        x.pass(2);
        x.power(false);
        Check.due("stop without power", x.stop(0), 1);
        Check.due("no program ended", x.house(0, 5), 0);
        Check.due("the door stays locked", x.freeIn(0), -5);
        x.power(true);
        Check.run(x, 0, "w1;s1");
        x.pass(2);
        Check.due("stop of a stuck one", x.stop(0), 1);
        Check.due("its door is free", x.washer(0, 5), 1);
    }

    private static void bail() {
        HaggleWash x = Check.streetOf(1);
        Check.due("no water", x.bail(0), -5);
        Check.run(x, 0, "f20;w9");
        Check.due("runs without water", x.bail(0), -4);
        x.pass(3);
        Check.due("runs", x.bail(0), -4);
        x.stop(0);
        int states = x.count(13);
        Check.due("bail", x.bail(0), 18);
        Check.due("act", x.count(13), Math.min(4, states + 1));
        Check.due("water", x.washer(0, 2), 0);
        Check.due("warmth", x.washer(0, 4), 0);
        Check.due("litres that came in", x.washer(0, 8), 18);
        Check.due("bail again", x.bail(0), -5);
        Check.run(x, 0, "f1;s1");
        x.pass(2);
        Check.due("bail of a stuck one", x.bail(0), 1);
        Check.due("it stays stuck", x.washer(0, 0), 2);
        x.pass(1);
        Check.due("it stays stuck", x.washer(0, 0), 2);
    }

    private static void bailOfHotWasher() {
        HaggleWash x = Check.streetOf(1);
        Check.run(x, 0, "f6;h60");
        x.pass(6);
        x.stop(0);
        x.power(false);
        Check.due("bail behind a locked door", x.bail(0), 6);
        Check.due("temperature", x.washer(0, 3), 15);
        Check.due("locked still", x.washer(0, 5), 2);
        x.pass(1);
        Check.due("locked without power", x.washer(0, 5), 2);
        x.power(true);
        Check.due("freeIn", x.freeIn(0), 1);
        x.pass(1);
        Check.due("openDoor", x.openDoor(0), 15);
    }

    private static void doors() {
        HaggleWash x = Check.streetOf(1);
        Check.due("closeDoor of a closed one", x.closeDoor(0), -5);
        Check.due("openDoor", x.openDoor(0), 15);
        Check.due("act", x.count(13), 2);
        Check.due("door", x.washer(0, 5), 0);
        Check.due("open doors", x.count(6), 1);
        Check.due("openDoor again", x.openDoor(0), -5);
        Check.due("no act", x.count(13), 2);
        x.pass(1);
        Check.due("stays open", x.washer(0, 5), 0);
        Check.due("closeDoor", x.closeDoor(0), 1);
        Check.due("act", x.count(13), 4);
        Check.due("door", x.washer(0, 5), 1);
        Check.run(x, 0, "w2");
        Check.due("openDoor of a locked one", x.openDoor(0), -4);
        Check.due("closeDoor of a locked one", x.closeDoor(0), -5);
        x.pass(2);
        Check.due("closed at the end", x.washer(0, 5), 1);
        x.power(false);
        Check.due("openDoor without power", x.openDoor(0), 15);
    }

    private static void warmDoor() {
        HaggleWash x = Check.streetOf(1);
        Check.run(x, 0, "f60;h40;w1");
        x.pass(10);
        x.pass(x.overIn(0));
        int warm = x.washer(0, 3);
        Check.holds("warm", warm > 30 && warm <= 40);
        Check.due("closed at once", x.washer(0, 5), 1);
        Check.due("temperature behind it", x.openDoor(0), warm);
        Check.due("water stays", x.washer(0, 2), 60);
    }
}
