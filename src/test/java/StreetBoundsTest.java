/** The edges of the boiler, of houses and of settings: "THE BOILER", steps 1 and 2, promises 2 to 5. */
public final class StreetBoundsTest {
    public static void main(String[] args) {
        argumentsOfAHouse();
        mostHouses();
        rangesOfSettings();
        settingsAsTheyAre();
        capacityAndStore();
        safeHeatAndDoors();
        powerAsItIs();
        powerThatComesBack();
        minutesToPass();
        storeAndCapacity();
        outflowAndStore();
        withoutPower();
        Check.end();
    }

    /** "own shares (1 to 20), a price (1 to 50 coins a share), coins (0 to 9999 at first ..)" */
    private static void argumentsOfAHouse() {
        Bounds.range("shares", Bounds::busy, (x, n) -> x.addHouse(n, 5, 5), 1, 20, -2, n -> 4);
        Bounds.range("price", Bounds::busy, (x, n) -> x.addHouse(5, n, 5), 1, 50, -2, n -> 4);
        Bounds.range("coins", Bounds::busy, (x, n) -> x.addHouse(5, 5, n), 0, 9999, -2, n -> 4);
        HaggleWash x = new HaggleWash();
        int[][] ends = {{1, 1, 0}, {2, 2, 1}, {19, 49, 9998}, {20, 50, 9999}};
        for (int i = 0; i < ends.length; i++) {
            x.addHouse(ends[i][0], ends[i][1], ends[i][2]);
            Check.due("shares", x.house(i, 0), ends[i][0]);
            Check.due("own shares", x.house(i, 1), ends[i][0]);
            Check.due("price", x.house(i, 2), ends[i][1]);
            Check.due("coins", x.house(i, 3), ends[i][2]);
        }
    }

    /** "There are at most 8 houses, numbered from 0." "BAD_VALUE; FULL if there are 8." */
    private static void mostHouses() {
        HaggleWash x = new HaggleWash();
        for (int i = 0; i < 8; i++) {
            Check.due("addHouse", x.addHouse(i + 1, 5, 5), i);
            Check.due("houses", x.count(2), i + 1);
            Check.due("its shares", x.house(i, 0), i + 1);
        }
        Bounds.refused("the ninth house", StreetBoundsTest::eight, y -> y.addHouse(1, 1, 1), -3);
        Bounds.refused("a bad ninth house", StreetBoundsTest::eight, y -> y.addHouse(0, 1, 1), -2);
        HaggleWash z = eight();
        z.undo();
        Check.due("the eighth house again", z.addHouse(2, 2, 2), 7);
    }

    private static HaggleWash eight() {
        return Check.streetOf(1, 2, 3, 4, 5, 6, 7, 8);
    }

    /** A street with 240 units in the store, no input, and a washer that wants 250. */
    private static HaggleWash almostEmpty() {
        HaggleWash x = Check.streetOf(1);
        x.set(1, 0);
        Check.run(x, 0, "f60;h95");
        x.pass(10);
        x.set(2, 10);
        x.pass(1);
        x.set(2, 2000);
        x.pass(39);
        return x;
    }

    /** "capacity (1000 to 60000)", "input (0 to 900)", "outflow (10 to 2000)", "safe heat (20 to 60)" */
    private static void rangesOfSettings() {
        Bounds.range("capacity", StreetBoundsTest::almostEmpty, (x, n) -> x.set(0, n), 1000, 60000, -2, n -> 20000);
        Bounds.range("input", Bounds::busy, (x, n) -> x.set(1, n), 0, 900, -2, n -> 200);
        Bounds.range("outflow", Bounds::busy, (x, n) -> x.set(2, n), 10, 2000, -2, n -> 300);
        Bounds.range("safe heat", Bounds::busy, (x, n) -> x.set(3, n), 20, 60, -2, n -> 40);
        int[] previous = {20000, 200, 300, 40};
        Bounds.range("setting", Bounds::busy, (x, n) -> x.set(n, n == 0 ? 30000 : 30), 0, 3, -2, n -> previous[n]);
        HaggleWash x = almostEmpty();
        int[][] ends = {{0, 1, 1000}, {0, 1, 60000}, {1, 2, 900}, {1, 2, 0}, {2, 3, 10}, {2, 3, 2000}, {3, 7, 20},
            {3, 7, 60}};
        for (int[] end : ends) {
            x.set(end[0], end[2]);
            Check.due("setting " + end[0], x.boiler(end[1]), end[2]);
        }
    }

    /** "NONE if it is so already" */
    private static void settingsAsTheyAre() {
        int[] first = {20000, 200, 300, 40};
        for (int i = 0; i < first.length; i++) {
            int what = i;
            Bounds.refused("setting " + what + " as it is", x -> x.set(what, first[what]), -5);
            Check.due("one less", Bounds.busy().set(what, first[what] - 1), first[what]);
            Check.due("one more", Bounds.busy().set(what, first[what] + 1), first[what]);
        }
    }

    /** "NOT_POSSIBLE if the store is greater than the capacity would be" */
    private static void capacityAndStore() {
        int store = Bounds.busy().boiler(0);
        Bounds.refused("capacity below the store", x -> x.set(0, store - 1), -4);
        Check.due("capacity of the store", Bounds.busy().set(0, store), 20000);
        Check.due("capacity above the store", Bounds.busy().set(0, store + 1), 20000);
        Bounds.refused("capacity below the store and its range", x -> x.set(0, 999), -2);
        Bounds.refused("no such setting below the store", x -> x.set(4, store - 1), -2);
        Check.due("another setting below the store", Bounds.busy().set(1, 9), 200);
    }

    /** A litre of 44 degrees, which never cools, behind a door that is closed. */
    private static HaggleWash warmAndClosed(int house) {
        HaggleWash x = Check.streetOf(1, 1, 1);
        Check.run(x, house, "f1;h44;w1");
        x.set(3, 44);
        x.pass(3);
        Check.due("closed", x.washer(house, 5), 1);
        return x;
    }

    private static HaggleWash warmAndOpen(int house) {
        HaggleWash x = warmAndClosed(house);
        Check.due("openDoor", x.openDoor(house), 44);
        return x;
    }

    private static HaggleWash warmAndLocked(int house) {
        HaggleWash x = Check.streetOf(1, 1, 1);
        Check.run(x, house, "f1;h44;w1");
        x.pass(3);
        Check.due("locked", x.washer(house, 5), 2);
        return x;
    }

    /** "a washer whose door is not locked is hotter than the safe heat would be" */
    private static void safeHeatAndDoors() {
        for (int i = 0; i < 3; i++) {
            int house = i;
            Bounds.refused("below a closed one", () -> warmAndClosed(house), x -> x.set(3, 43), -4);
            Bounds.refused("below an open one", () -> warmAndOpen(house), x -> x.set(3, 43), -4);
            Bounds.refused("as it is", () -> warmAndClosed(house), x -> x.set(3, 44), -5);
            Check.due("above a closed one", warmAndClosed(house).set(3, 45), 44);
            Check.due("above an open one", warmAndOpen(house).set(3, 45), 44);
            Bounds.refused("below a closed one and its range", () -> warmAndClosed(house), x -> x.set(3, 19), -2);
            for (int degrees : new int[] {20, 43, 44, 45}) {
                Check.due("of a locked one", warmAndLocked(house).set(3, degrees), 40);
            }
            HaggleWash x = warmAndOpen(house);
            x.set(3, 60);
            Check.due("down to it", x.set(3, 44), 60);
            x.bail(house);
            Check.due("without water", x.set(3, 20), 44);
        }
    }

    /** "NONE if it is so already" */
    private static void powerAsItIs() {
        Bounds.refused("power on", x -> x.power(true), -5);
        Bounds.refused("power off", () -> {
            HaggleWash x = Bounds.busy();
            x.power(false);
            return x;
        }, x -> x.power(false), -5);
        Bounds.refused("power on while it spins", StreetBoundsTest::spins, x -> x.power(true), -5);
        Check.due("spins on", spins().overIn(0), 2);
    }

    private static HaggleWash spins() {
        HaggleWash x = Check.streetOf(1, 1, 1);
        Check.run(x, 0, "s5");
        Check.run(x, 1, "w5");
        x.pass(3);
        return x;
    }

    /** "a washer that runs and is in a phase s begins this phase anew (it has gone for 0 minutes then)" */
    private static void powerThatComesBack() {
        HaggleWash x = spins();
        Check.due("washers that run", x.power(false), 2);
        Check.due("no power", x.washer(0, 6), 3);
        Check.due("washers that run", x.power(true), 2);
        Check.due("spins anew", x.washer(0, 6), 0);
        Check.due("still its first phase", x.washer(0, 1), 0);
        Check.due("washes on", x.washer(1, 6), 3);
        x.pass(4);
        Check.due("spins still", x.washer(0, 0), 1);
        x.pass(1);
        Check.due("is over", x.washer(0, 0), 0);
        HaggleWash z = Check.streetOf(1, 1, 1);
        Check.run(z, 0, "f60;d");
        Check.run(z, 1, "f1;h95;d");
        Check.run(z, 2, "f60;d");
        z.pass(12);
        z.stop(0);
        z.start(0);
        z.set(2, 10);
        z.stop(1);
        z.start(1);
        z.pass(2);
        int[] gone = {2, 1, 4};
        for (int i = 0; i < 2; i++) {
            for (int house = 0; house < gone.length; house++) {
                Check.due("no other phase anew", z.washer(house, 6), gone[house]);
            }
            z.power(false);
            z.power(true);
        }
        HaggleWash u = Bounds.busy();
        Check.due("one that is stuck does not run", u.power(false), 1);
        Check.due("one that is stuck does not run", u.power(true), 1);
        HaggleWash y = spins();
        y.stop(0);
        y.power(false);
        y.power(true);
        Check.due("rests", y.washer(0, 6), -5);
        Check.due("washes on", y.overIn(1), 2);
    }

    /** "minutes: 1 to 60" */
    private static void minutesToPass() {
        Bounds.range("pass", () -> Check.streetOf(1), (x, n) -> x.pass(n), 1, 60, -2, n -> 0);
        for (int minutes : new int[] {0, 61}) {
            Bounds.refused("pass", x -> x.pass(minutes), -2);
        }
        for (int minutes : new int[] {1, 2, 59, 60}) {
            HaggleWash x = Check.streetOf(1);
            Check.run(x, 0, "f60;h95");
            x.set(2, 10);
            x.pass(10);
            Check.due("heat of all minutes", x.pass(minutes), 10 * minutes);
            Check.due("minute", x.count(0), 10 + minutes);
        }
    }

    /** "The store becomes greater by the input, but at most the capacity." */
    private static void storeAndCapacity() {
        int[][] rows = {{10000, 0}, {10001, 1}, {10199, 199}, {10200, 200}, {10201, 200}};
        for (int[] row : rows) {
            HaggleWash x = new HaggleWash();
            x.set(0, row[0]);
            x.pass(1);
            Check.due("store with capacity " + row[0], x.boiler(0), 10000 + row[1]);
            Check.due("heat that came in", x.boiler(4), row[1]);
        }
        HaggleWash x = new HaggleWash();
        x.set(1, 0);
        x.pass(60);
        Check.due("no input", x.boiler(0) + x.boiler(4), 10000);
        x.set(1, 900);
        x.pass(12);
        Check.due("at the capacity", x.boiler(0), 20000);
        Check.due("heat that came in", x.boiler(4), 10000);
    }

    /** "The heat of this minute is the outflow, or the store if that is less." */
    private static void outflowAndStore() {
        int[][] rows = {{10, 10}, {239, 239}, {240, 240}, {241, 240}, {2000, 240}};
        for (int[] row : rows) {
            HaggleWash x = almostEmpty();
            Check.due("store", x.boiler(0), 240);
            Check.due("wanted", x.boiler(6), 250);
            x.set(2, row[0]);
            Check.due("heatNext with outflow " + row[0], x.heatNext(0), row[1]);
            Check.due("pass", x.pass(1), row[1]);
            Check.due("store", x.boiler(0), 240 - row[1]);
        }
        HaggleWash x = almostEmpty();
        x.pass(1);
        Check.due("empty store", x.heatNext(0), 0);
        Check.due("pass", x.pass(1), 0);
        Check.due("store", x.boiler(0), 0);
        HaggleWash y = almostEmpty();
        y.set(1, 9);
        Check.due("store and input below what is wanted", y.heatNext(0), 249);
        y.set(1, 10);
        Check.due("as much as is wanted", y.heatNext(0), 250);
        y.set(1, 11);
        Check.due("not more than is wanted", y.heatNext(0), 250);
        y.pass(1);
        Check.due("store", y.boiler(0), 1);
    }

    /** "(1 to 4 and 6 only if there is power)" */
    private static void withoutPower() {
        HaggleWash x = Bounds.busy();
        Check.due("power", x.count(1), 1);
        x.power(false);
        Check.due("no power", x.count(1), 0);
        int warmth = x.washer(0, 4);
        int store = x.boiler(0);
        int heatIn = x.boiler(4);
        Check.due("heat", x.pass(1), 0);
        Check.due("1: store", x.boiler(0), store);
        Check.due("1: heat that came in", x.boiler(4), heatIn);
        Check.due("3: gone", x.washer(0, 6), Bounds.busy().washer(0, 6));
        Check.holds("5: warmth", x.washer(0, 4) < warmth);
        Check.due("7: lease", x.lease(0, 3), 28);
        Check.due("8: minute", x.count(0), 14);
        Check.due("minutes without power", x.count(10), 1);
        x.bail(3);
        x.pass(1);
        Check.due("6: door", x.washer(3, 5), 2);
        x.power(true);
        x.pass(1);
        Check.due("6: door", x.washer(3, 5), 1);
        Check.due("1: heat that came in", x.boiler(4), heatIn + 200);
        Check.due("minutes without power", x.count(10), 2);
    }
}
