/** Promises 1 to 5, and what happens in a minute. */
public final class StreetTest {
    public static void main(String[] args) {
        newObject();
        addHouse();
        setAndItsRanges();
        setAgainstStoreAndDoors();
        setLeastCapacity();
        power();
        spinBeginsAnewWithPower();
        passAndItsRange();
        storeAndInput();
        outflowOrStore();
        splitByShares();
        splitAgainWhatIsLeft();
        splitSingleUnits();
        splitWithoutShares();
        splitOfOneShare();
        splitForOneUnit();
        fill();
        heatIsAtMostWhatIsWanted();
        drainAndCooling();
        phasesTakeAMinute();
        aLitreCools();
        stuckWashers();
        lockedDoors();
        leasesRunOut();
        Check.end();
    }

    private static void newObject() {
        HaggleWash x = new HaggleWash();
        int[] boiler = {10000, 20000, 200, 300, 0, 0, 0, 40};
        for (int what = 0; what < boiler.length; what++) {
            Check.due("new boiler " + what, x.boiler(what), boiler[what]);
        }
        for (int what = 0; what <= 14; what++) {
            Check.due("new count " + what, x.count(what), what == 1 ? 1 : 0);
        }
        Check.due("new house", x.house(0, 0), -1);
        Check.due("new undo", x.undo(), -5);
        Check.due("new restore", x.restore(), -5);
    }

    private static void addHouse() {
        HaggleWash x = new HaggleWash();
        int[][] bad = {{0, 5, 5}, {21, 5, 5}, {-1, 5, 5}, {5, 0, 5}, {5, 51, 5}, {5, 5, -1}, {5, 5, 10000},
            {Integer.MIN_VALUE, Integer.MAX_VALUE, Integer.MIN_VALUE}};
        for (int[] b : bad) {
            Check.due("bad addHouse", x.addHouse(b[0], b[1], b[2]), -2);
        }
        Check.due("count after bad ones", x.count(2) + x.count(13), 0);
        Check.due("least addHouse", x.addHouse(1, 1, 0), 0);
        Check.due("most addHouse", x.addHouse(20, 50, 9999), 1);
        int[] accounts = {20, 20, 50, 9999, 0, 0, 0, 0, 0, 0};
        for (int what = 0; what < accounts.length; what++) {
            Check.due("house(1, " + what + ")", x.house(1, what), accounts[what]);
        }
        int[] washer = {0, -5, 0, 15, 0, 1, -5, 0, 0};
        for (int what = 0; what < washer.length; what++) {
            Check.due("washer(1, " + what + ")", x.washer(1, what), washer[what]);
        }
        Check.due("addHouse is an act", x.count(13), 2);
        for (int i = 2; i < 8; i++) {
            Check.due("addHouse", x.addHouse(1, 1, 0), i);
        }
        Check.due("ninth addHouse", x.addHouse(1, 1, 0), -3);
        Check.due("bad ninth addHouse", x.addHouse(0, 1, 0), -2);
        Check.due("houses", x.count(2), 8);
    }

    private static void setAndItsRanges() {
        HaggleWash x = new HaggleWash();
        int[] least = {1000, 0, 10, 20};
        int[] most = {60000, 900, 2000, 60};
        int[] first = {20000, 200, 300, 40};
        int[] told = {1, 2, 3, 7};
        for (int what = 0; what < 4; what++) {
            Check.due("set below", x.set(what, least[what] - 1), -2);
            Check.due("set above", x.set(what, most[what] + 1), -2);
            Check.due("set as it is", x.set(what, first[what]), -5);
            Check.due("set most", x.set(what, most[what]), first[what]);
            Check.due("told most", x.boiler(told[what]), most[what]);
            Check.due("set as it is", x.set(what, most[what]), -5);
            if (what > 0) {
                Check.due("set least", x.set(what, least[what]), most[what]);
                Check.due("told least", x.boiler(told[what]), least[what]);
            }
        }
        Check.due("set is an act", x.count(13), 4);
        Check.due("set(-1)", x.set(-1, 30), -2);
        Check.due("set(4)", x.set(4, 30), -2);
        Check.due("set(MIN)", x.set(Integer.MIN_VALUE, 1000), -2);
        Check.due("set(MAX)", x.set(Integer.MAX_VALUE, 1000), -2);
    }

    private static void setAgainstStoreAndDoors() {
        HaggleWash x = Check.streetOf(5);
        Check.due("capacity below the store", x.set(0, 9999), -4);
        Check.due("capacity below its range", x.set(0, 999), -2);
        Check.due("capacity of the store", x.set(0, 10000), 20000);
        Check.run(x, 0, "f6;h60");
        x.pass(6);
        Check.due("hot and locked", x.washer(0, 3), 59);
        x.stop(0);
        Check.due("safe heat below a locked washer", x.set(3, 30), 40);
        Check.passLong(x, 200);
        Check.due("closed at the safe heat", x.washer(0, 5), 1);
        int warm = x.washer(0, 3);
        Check.holds("still warm", warm > 20 && warm <= 30);
        Check.due("safe heat below a closed one", x.set(3, warm - 1), -4);
        Check.due("safe heat of a closed one", x.set(3, warm), 30);
        x.openDoor(0);
        Check.due("safe heat below an open one", x.set(3, 20), -4);
        Check.due("safe heat out of its range", x.set(3, 19), -2);
        Check.due("another setting", x.set(1, 5), 200);
    }

    private static void setLeastCapacity() {
        HaggleWash x = twoHeating(1, 1);
        x.set(1, 0);
        x.set(2, 2000);
        Check.passLong(x, 23);
        Check.due("store", x.boiler(0), 12000 - 23 * 500);
        Check.due("below its range", x.set(0, 999), -2);
        Check.due("below the store", x.set(0, 1000), 20000);
        Check.due("capacity", x.boiler(1), 1000);
        Check.due("as it is", x.set(0, 1000), -5);
    }

    private static void power() {
        HaggleWash x = Check.streetOf(1, 1, 1);
        Check.due("power is on", x.power(true), -5);
        Check.run(x, 0, "w9");
        Check.run(x, 1, "w9");
        int states = x.count(13);
        Check.due("power off", x.power(false), 2);
        Check.due("power off again", x.power(false), -5);
        Check.due("told", x.count(1), 0);
        String before = Check.told(x);
        x.pass(7);
        Check.due("minutes without power", x.count(10), 7);
        Check.due("the minute", x.count(0), 7);
        Check.due("phase does not go on", x.washer(0, 6), 0);
        Check.due("no input", x.boiler(0), 10000);
        x.undo();
        Check.holds("undone", Check.told(x).equals(before));
        Check.due("power on", x.power(true), 2);
        Check.due("states", x.count(13), Math.min(4, states + 2));
        x.pass(9);
        Check.due("programs over", x.count(11), 2);
        Check.due("power off with none", x.power(false), 0);
    }

    private static void spinBeginsAnewWithPower() {
        HaggleWash x = Check.streetOf(1, 1);
        Check.run(x, 0, "s5");
        Check.run(x, 1, "w5");
        x.pass(3);
        x.power(false);
        Check.due("spin keeps its minutes without power", x.washer(0, 6), 3);
        x.pass(1);
        Check.due("spin keeps its minutes without power", x.washer(0, 6), 3);
        x.power(true);
        Check.due("spin anew", x.washer(0, 6), 0);
        Check.due("wash goes on", x.washer(1, 6), 3);
        Check.due("overIn of the spin", x.overIn(0), 5);
        Check.due("overIn of the wash", x.overIn(1), 2);
    }

    private static void passAndItsRange() {
        HaggleWash x = Check.streetOf(1);
        Check.due("pass(0)", x.pass(0), -2);
        Check.due("pass(61)", x.pass(61), -2);
        Check.due("pass(-1)", x.pass(-1), -2);
        Check.due("pass(MAX)", x.pass(Integer.MAX_VALUE), -2);
        Check.due("no minute passed", x.count(0), 0);
        Check.due("no act", x.count(13), 1);
        Check.due("pass(1)", x.pass(1), 0);
        Check.due("pass(60)", x.pass(60), 0);
        Check.due("the minute", x.count(0), 61);
        Check.due("two acts", x.count(13), 3);
        Check.run(x, 0, "f10;h95");
        Check.due("heat of all minutes", x.pass(4), 500);
    }

    private static void storeAndInput() {
        HaggleWash x = new HaggleWash();
        x.set(0, 10300);
        x.pass(1);
        Check.due("store", x.boiler(0), 10200);
        x.pass(1);
        Check.due("store at the capacity", x.boiler(0), 10300);
        Check.due("heat that really came in", x.boiler(4), 300);
        x.pass(5);
        Check.due("heat that really came in", x.boiler(4), 300);
    }

    /** Two washers of 60 litres each, in their phase h. */
    private static HaggleWash twoHeating(int shares, int others) {
        HaggleWash x = Check.streetOf(shares, others);
        Check.run(x, 0, "f60;h95");
        Check.run(x, 1, "f60;h95");
        x.pass(10);
        return x;
    }

    private static void outflowOrStore() {
        HaggleWash x = twoHeating(1, 1);
        x.set(1, 0);
        x.set(2, 10);
        Check.due("the outflow", x.pass(1), 10);
        x.set(2, 2000);
        Check.due("what both want", x.pass(1), 500);
        Check.passLong(x, 21);
        Check.due("store", x.boiler(0), 12000 - 10 - 22 * 500);
        x.pass(1);
        Check.due("store", x.boiler(0), 490);
        Check.due("the store", x.pass(1), 490);
        Check.due("nothing is left", x.pass(1), 0);
        x.set(1, 77);
        Check.due("input of this minute", x.heatNext(0) + x.heatNext(1), 77);
        Check.due("input of this minute", x.pass(1), 77);
        Check.due("heat so far", x.boiler(5), 12000 + 77);
    }

    private static void splitByShares() {
        HaggleWash x = twoHeating(3, 1);
        Check.due("3 of 4 parts", x.heatNext(0), 225);
        Check.due("1 of 4 parts", x.heatNext(1), 75);
        x.set(2, 100);
        Check.due("3 of 4 parts", x.heatNext(0), 75);
        x.pass(2);
        Check.due("heat of the house", x.house(0, 4), 150);
        Check.due("heat of the other", x.house(1, 4), 50);
        Check.due("warmth", x.washer(1, 4), 60 * 60 + 50);
    }

    private static void splitAgainWhatIsLeft() {
        HaggleWash x = twoHeating(19, 1);
        // 285 and 15 are the parts; the first takes 250, the other has the 35 that are left
        Check.due("not more than is wanted", x.heatNext(0), 250);
        Check.due("part and rest", x.heatNext(1), 50);
        HaggleWash y = Check.streetOf(2, 3, 2);
        for (int i = 0; i < 3; i++) {
            Check.run(y, i, "f60;h95");
        }
        y.pass(10);
        y.set(2, 10);
        // 2, 4 and 2; then of the 2 that are left 0 each: 1 for the lowest, and once more
        Check.due("part and single units", y.heatNext(0), 4);
        Check.due("part", y.heatNext(1), 4);
        Check.due("part", y.heatNext(2), 2);
    }

    private static void splitSingleUnits() {
        HaggleWash x = Check.streetOf(1, 1, 1);
        Check.run(x, 0, "f1;h16");
        Check.run(x, 1, "f60;h95");
        Check.run(x, 2, "f60;h95");
        x.pass(1);
        Check.due("wants 4", x.boiler(6), 4);
        x.stop(0);
        x.pass(9);
        x.start(0);
        x.pass(1);
        x.set(2, 11);
        // the warmth is 120 of 2 litres, so it wants 8: 3 each, then 0 each
        Check.due("lowest", x.heatNext(0), 5);
        Check.due("middle", x.heatNext(1), 3);
        Check.due("highest", x.heatNext(2), 3);
    }

    private static void splitWithoutShares() {
        HaggleWash x = twoHeating(3, 2);
        x.addHouse(1, 1, 9999);
        Check.holds("lend all of 0", x.haggle(2, 0, 3, 100, 5) > 0);
        Check.due("no shares", x.house(0, 0), 0);
        Check.due("the one with shares", x.heatNext(1), 250);
        Check.due("the one without gets the rest", x.heatNext(0), 50);
        Check.holds("lend all of 1", x.haggle(2, 1, 2, 100, 5) > 0);
        Check.due("lowest of those without shares", x.heatNext(0), 250);
        Check.due("the next one", x.heatNext(1), 50);
        x.set(2, 100);
        Check.due("lowest of those without shares", x.heatNext(0), 100);
        Check.due("the next one", x.heatNext(1), 0);
    }

    private static void splitOfOneShare() {
        HaggleWash x = twoHeating(3, 1);
        x.addHouse(1, 1, 9999);
        x.haggle(2, 0, 3, 100, 5);
        x.set(2, 11);
        Check.due("no share", x.heatNext(0), 0);
        Check.due("all of the shares", x.heatNext(1), 11);
        HaggleWash y = Check.streetOf(1, 1);
        Check.run(y, 0, "f60;h95");
        Check.run(y, 1, "f60;h95");
        y.pass(10);
        y.set(2, 11);
        // 5 each, then of the 1 that is left 0 each
        Check.due("odd unit", y.heatNext(0), 6);
        Check.due("part", y.heatNext(1), 5);
        y.set(2, 13);
        y.stop(1);
        Check.due("alone", y.pass(1), 13);
        HaggleWash z = Check.streetOf(1, 18, 1);
        for (int i = 0; i < 3; i++) {
            Check.run(z, i, "f60;h95");
        }
        z.pass(10);
        z.set(2, 19);
        // 0, 17 and 0; then of the 2 that are left 0, 1 and 0; then of the 1 that is left 0 each
        Check.due("single unit", z.heatNext(0), 1);
        Check.due("17 and 1", z.heatNext(1), 18);
        Check.due("nothing", z.heatNext(2), 0);
        Check.due("all of it", z.pass(1), 19);
    }

    private static void splitForOneUnit() {
        HaggleWash x = Check.streetOf(3, 7);
        Check.run(x, 1, "f60;h95");
        x.pass(9);
        Check.run(x, 0, "f1;h16");
        x.pass(1);
        x.set(2, 10);
        Check.due("wants 4, its part is 3", x.heatNext(0), 3);
        x.pass(1);
        Check.due("wants 1, its part is 3", x.heatNext(0), 1);
        Check.due("the other has the rest", x.heatNext(1), 9);
    }

    private static void fill() {
        HaggleWash x = Check.streetOf(1);
        Check.run(x, 0, "f14;f6;w1");
        int[] water = {6, 12, 14, 20, 20};
        int[] phase = {0, 0, 1, 2, -5};
        int[] gone = {1, 2, 0, 0, -5};
        for (int i = 0; i < water.length; i++) {
            x.pass(1);
            Check.due("water", x.washer(0, 2), water[i]);
            Check.due("warmth", x.washer(0, 4), 60 * water[i]);
            Check.due("temperature", x.washer(0, 3), 15);
            Check.due("phase", x.washer(0, 1), phase[i]);
            Check.due("gone", x.washer(0, 6), gone[i]);
            Check.due("litres", x.washer(0, 8), water[i]);
        }
        Check.due("programs", x.house(0, 5), 1);
    }

    private static void heatIsAtMostWhatIsWanted() {
        HaggleWash x = Check.streetOf(1);
        Check.run(x, 0, "f1;h20;h18;w1");
        x.pass(1);
        Check.due("wants", x.boiler(6), 20);
        Check.due("gets", x.pass(1), 20);
        Check.due("phase", x.washer(0, 1), 2);
        Check.due("is warm enough", x.heatNext(0), 0);
        Check.due("gets nothing", x.pass(1), 0);
        Check.due("but is over", x.washer(0, 1), 3);
        HaggleWash y = twoHeating(1, 1);
        y.power(false);
        Check.due("wanted without power too", y.boiler(6), 500);
        Check.due("nothing without power", y.heatNext(0), 0);
        Check.due("nothing without power", y.pass(1), 0);
    }

    private static void drainAndCooling() {
        HaggleWash x = Check.streetOf(1);
        Check.run(x, 0, "f60;h17;d");
        x.pass(10);
        Check.due("gets", x.pass(1), 250);
        // (16 - 15) * 60 / 30
        Check.due("loses", x.washer(0, 4), 3600 + 250 - 2);
        Check.due("still heats", x.washer(0, 1), 1);
        Check.due("gets", x.pass(1), 232);
        Check.due("loses", x.washer(0, 4), 3600 + 250 - 2 + 232 - 4);
        Check.due("over before it loses", x.washer(0, 1), 2);
        x.pass(1);
        // 4076 * 48 / 60 = 3260 (16 degrees), less 1 * 48 / 30
        Check.due("drains", x.washer(0, 2), 48);
        Check.due("warmth", x.washer(0, 4), 3260 - 1);
        x.pass(3);
        Check.due("drains", x.washer(0, 2), 12);
        x.pass(1);
        Check.due("is empty", x.washer(0, 2), 0);
        Check.due("no warmth", x.washer(0, 4), 0);
        Check.due("is over", x.house(0, 5), 1);
    }

    private static void phasesTakeAMinute() {
        HaggleWash x = Check.streetOf(1);
        Check.run(x, 0, "d;d;f6;w1;d;s1");
        int[] phases = {1, 2, 3, 4, 5, -5};
        for (int phase : phases) {
            x.pass(1);
            Check.due("phase", x.washer(0, 1), phase);
            Check.due("warmth", x.washer(0, 4), 60 * x.washer(0, 2));
        }
    }

    private static void aLitreCools() {
        HaggleWash x = Check.streetOf(1);
        Check.run(x, 0, "f1;h46;w9");
        x.pass(2);
        Check.due("(46 - 15) / 30", x.washer(0, 4), 4 * 46 - 1);
        x.pass(1);
        Check.due("(45 - 15) / 30", x.washer(0, 4), 4 * 46 - 2);
        x.pass(5);
        Check.due("(44 - 15) / 30 is 0", x.washer(0, 4), 4 * 45 - 1);
    }

    private static void stuckWashers() {
        HaggleWash x = Check.streetOf(1, 1, 1);
        Check.run(x, 0, "w1;h50");
        Check.run(x, 1, "f5;s3");
        Check.run(x, 2, "w3");
        x.pass(1);
        Check.due("none wants heat without water", x.boiler(6), 0);
        Check.due("none is stuck yet", x.count(4), 0);
        x.pass(1);
        Check.due("both are stuck", x.count(4), 2);
        Check.due("state", x.washer(0, 0), 2);
        Check.due("phase", x.washer(0, 1), 1);
        Check.due("gone", x.washer(1, 6), 0);
        Check.due("its door is free", x.washer(1, 5), 1);
        x.pass(10);
        Check.due("they stay stuck", x.count(4), 2);
        Check.due("one program ended", x.count(11), 1);
        Check.due("not startable", x.start(0), -4);
    }

    private static void lockedDoors() {
        HaggleWash x = Check.streetOf(1);
        Check.run(x, 0, "f6;h60;w1");
        Check.due("locked", x.washer(0, 5), 2);
        x.pass(7);
        Check.due("is over", x.washer(0, 0), 0);
        Check.due("too hot", x.washer(0, 5), 2);
        int free = x.freeIn(0);
        Check.passLong(x, free - 1);
        Check.due("too hot", x.washer(0, 5), 2);
        x.power(false);
        x.pass(9);
        Check.due("stays locked without power", x.washer(0, 5), 2);
        Check.holds("cools without power", x.washer(0, 3) <= 40);
        x.power(true);
        x.pass(1);
        Check.due("is closed", x.washer(0, 5), 1);
    }

    private static void leasesRunOut() {
        HaggleWash x = Check.streetOf(9, 9);
        x.haggle(1, 0, 1, 5, 2);
        x.haggle(1, 0, 2, 99, 1);
        x.haggle(0, 1, 3, 99, 3);
        x.power(false);
        x.pass(1);
        Check.due("one is over", x.count(7), 2);
        Check.due("the first", x.lease(0, 2), 1);
        Check.due("the later one comes earlier", x.lease(1, 2), 3);
        Check.due("minutes left", x.lease(1, 3), 2);
        x.pass(1);
        Check.due("the last", x.lease(0, 2), 3);
        Check.due("shares", x.house(0, 0), 12);
        x.pass(1);
        Check.due("none", x.count(7), 0);
        Check.due("shares", x.house(0, 0), 9);
    }
}
