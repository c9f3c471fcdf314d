/** The edges of splitting heat: "SPLITTING", step 2, promises 5, 21 and 22. */
public final class SplitBoundsTest {
    public static void main(String[] args) {
        asMuchAsIsWanted();
        partsRoundedDown();
        partAgainstWhatIsWanted();
        leftAtTheBeginningOfTheRound();
        housesThatWant();
        noShares();
        noneHasShares();
        oneUnitForTheLowest();
        noHeatLeft();
        mostShares();
        Check.end();
    }

    /** Washers of 60 litres, in their phase h, each of which wants 250 units. */
    private static HaggleWash heating(int... shares) {
        HaggleWash x = Check.streetOf(shares);
        for (int i = 0; i < shares.length; i++) {
            Check.run(x, i, "f60;h95");
        }
        x.pass(10);
        return x;
    }

    /** Sees what each house gets of so much heat, ahead of the minute and behind it. */
    private static void gets(HaggleWash x, int outflow, int... due) {
        x.set(2, outflow);
        int all = 0;
        int[] before = new int[due.length];
        for (int i = 0; i < due.length; i++) {
            before[i] = x.house(i, 4);
            Check.due(outflow + " split, heatNext(" + i + ")", x.heatNext(i), due[i]);
            all += due[i];
        }
        int store = x.boiler(0);
        int heatOut = x.boiler(5);
        Check.due(outflow + " split, pass", x.pass(1), all);
        Check.due(outflow + " split, store", x.boiler(0), Math.min(20000, store + x.boiler(2)) - all);
        Check.due(outflow + " split, heat so far", x.boiler(5), heatOut + all);
        for (int i = 0; i < due.length; i++) {
            Check.due(outflow + " split, house(" + i + ", 4)", x.house(i, 4), before[i] + due[i]);
        }
    }

    /** "As long as there is heat left, and a house wants some more" */
    private static void asMuchAsIsWanted() {
        gets(heating(1, 1), 498, 249, 249);
        gets(heating(1, 1), 499, 250, 249);
        gets(heating(1, 1), 500, 250, 250);
        gets(heating(1, 1), 501, 250, 250);
        gets(heating(1, 1), 2000, 250, 250);
        gets(heating(7), 249, 249);
        gets(heating(7), 250, 250);
        gets(heating(7), 251, 250);
    }

    /** "what was left .. * its shares / the shares of all such houses together, rounded down" */
    private static void partsRoundedDown() {
        gets(heating(1, 1), 10, 5, 5);
        gets(heating(1, 1), 11, 6, 5);
        gets(heating(1, 2), 11, 4, 7);
        gets(heating(1, 2), 12, 4, 8);
        gets(heating(1, 2), 13, 5, 8);
        gets(heating(3, 1), 12, 9, 3);
        gets(heating(3, 1), 13, 10, 3);
        // 10 and 3, then 0 and 0, and the lowest has the one that is left
        gets(heating(3, 1), 14, 11, 3);
        // 11 and 3, and the one that is left
        gets(heating(3, 1), 15, 12, 3);
        gets(heating(3, 1), 16, 12, 4);
    }

    /** "it gets its part, but not more than it wants still" */
    private static void partAgainstWhatIsWanted() {
        gets(heating(3, 1), 332, 249, 83);
        gets(heating(3, 1), 333, 250, 83);
        gets(heating(3, 1), 334, 250, 84);
        gets(heating(3, 1), 335, 250, 85);
        gets(heating(3, 1), 336, 250, 86);
        int[][] rows = {{3, 7, 3, 7}, {2, 3, 4, 6}, {1, 1, 4, 6}};
        for (int[] row : rows) {
            HaggleWash x = Check.streetOf(row[0], row[1]);
            Check.run(x, 1, "f60;h95");
            x.pass(9);
            Check.run(x, 0, "f1;h16");
            x.pass(1);
            Check.due("all want", x.boiler(6), 254);
            gets(x, 10, row[2], row[3]);
        }
    }

    /** "what was left at the beginning of the round" */
    private static void leftAtTheBeginningOfTheRound() {
        gets(heating(1, 1, 1), 99, 33, 33, 33);
        gets(heating(1, 1, 1), 100, 34, 33, 33);
        gets(heating(1, 1, 1), 101, 35, 33, 33);
        gets(heating(1, 1, 1), 102, 34, 34, 34);
        gets(heating(1, 2, 5), 80, 10, 20, 50);
    }

    /** "the houses whose washers run, are in a phase h, have water, and want heat", "of all such houses" */
    private static void housesThatWant() {
        HaggleWash x = heating(1, 1, 2, 4);
        x.stop(2);
        x.stop(3);
        Check.run(x, 3, "w1");
        gets(x, 300, 150, 150, 0, 0);
        HaggleWash y = Check.streetOf(2, 1, 1, 9, 9);
        Check.run(y, 1, "f60;h95");
        Check.run(y, 2, "f60;h95");
        y.pass(8);
        Check.run(y, 0, "w1;f1;h16");
        Check.run(y, 3, "w2;h50");
        Check.run(y, 4, "f1;d");
        y.pass(2);
        // 4 of the 50, 25 and 25; then 23 and 23
        gets(y, 100, 4, 48, 48, 0, 0);
        Check.due("has no water", y.washer(3, 0), 2);
    }

    /** Two washers that heat, of houses that have lent all of their shares, or of which the first one has. */
    private static HaggleWash lent(int shares, int others, boolean both) {
        HaggleWash x = Check.streetOf(shares, others);
        x.addHouse(1, 1, 9999);
        Check.run(x, 0, "f60;h95");
        Check.run(x, 1, "f60;h95");
        x.pass(10);
        Check.holds("lends all", x.haggle(2, 0, shares, 1000, 200) > 0);
        if (both) {
            Check.holds("lends all", x.haggle(2, 1, others, 1000, 200) > 0);
        }
        return x;
    }

    /** "rounded down (0 if these have no shares)": a house without shares, beside one that has some */
    private static void noShares() {
        gets(lent(3, 5, false), 249, 0, 249, 0);
        gets(lent(3, 5, false), 250, 0, 250, 0);
        gets(lent(3, 5, false), 251, 1, 250, 0);
        gets(lent(3, 5, false), 499, 249, 250, 0);
        gets(lent(3, 5, false), 500, 250, 250, 0);
        gets(lent(3, 5, false), 501, 250, 250, 0);
        gets(lent(3, 1, false), 10, 0, 10, 0);
        gets(lent(3, 1, false), 251, 1, 250, 0);
    }

    /** "If all get nothing in a round, the lowest of these houses gets 1 unit, and another round begins." */
    private static void noneHasShares() {
        gets(lent(3, 5, true), 10, 10, 0, 0);
        gets(lent(3, 5, true), 249, 249, 0, 0);
        gets(lent(3, 5, true), 250, 250, 0, 0);
        gets(lent(3, 5, true), 251, 250, 1, 0);
        gets(lent(3, 5, true), 499, 250, 249, 0);
        gets(lent(3, 5, true), 500, 250, 250, 0);
        gets(lent(3, 5, true), 501, 250, 250, 0);
    }

    /** "If all get nothing in a round": what is left is less than each part needs */
    private static void oneUnitForTheLowest() {
        gets(heating(2, 3, 2), 10, 4, 4, 2);
        gets(heating(1, 18, 1), 19, 1, 18, 0);
        gets(heating(1, 18, 1), 20, 1, 18, 1);
        gets(heating(1, 1, 1, 1, 1, 1, 1, 1), 15, 8, 1, 1, 1, 1, 1, 1, 1);
        gets(heating(1, 1, 1, 1, 1, 1, 1, 1), 16, 2, 2, 2, 2, 2, 2, 2, 2);
        gets(heating(1, 1, 1, 1, 1, 1, 1, 1), 17, 3, 2, 2, 2, 2, 2, 2, 2);
        HaggleWash x = heating(1, 1, 1, 1, 1, 1, 1, 1);
        x.stop(0);
        gets(x, 13, 0, 7, 1, 1, 1, 1, 1, 1);
        int[][] rows = {{10, 4, 3, 3}, {11, 4, 4, 3}, {12, 4, 4, 4}, {13, 4, 5, 4}, {14, 4, 5, 5}};
        for (int[] row : rows) {
            HaggleWash y = Check.streetOf(1, 1, 1);
            Check.run(y, 1, "f60;h95");
            Check.run(y, 2, "f60;h95");
            y.pass(9);
            Check.run(y, 0, "f1;h16");
            y.pass(1);
            // the first one wants 4: with them it is no longer the lowest
            gets(y, row[0], row[1], row[2], row[3]);
        }
    }

    /** "As long as there is heat left" */
    private static void noHeatLeft() {
        HaggleWash x = heating(1, 1);
        x.set(1, 0);
        x.set(2, 500);
        x.pass(24);
        Check.due("store", x.boiler(0), 0);
        gets(x, 500, 0, 0);
        x.set(1, 1);
        gets(x, 500, 1, 0);
        x.set(1, 2);
        gets(x, 500, 1, 1);
        x.set(1, 77);
        gets(x, 500, 39, 38);
        x.power(false);
        Check.due("without power", x.heatNext(0) + x.heatNext(1), 0);
        Check.due("without power", x.pass(1), 0);
        Check.due("wanted also without power", x.boiler(6), 500);
    }

    /** The greatest outflow, and as many shares as there can be. */
    private static void mostShares() {
        HaggleWash x = heating(20, 20, 20, 20, 20, 20, 20, 20);
        Check.due("wanted", x.boiler(6), 2000);
        gets(x, 1999, 250, 250, 250, 250, 250, 250, 250, 249);
        HaggleWash y = heating(20, 20, 20, 20, 20, 20, 20, 20);
        gets(y, 2000, 250, 250, 250, 250, 250, 250, 250, 250);
        HaggleWash z = heating(20, 20, 20, 20, 20, 20, 20, 20);
        gets(z, 161, 21, 20, 20, 20, 20, 20, 20, 20);
        HaggleWash w = heating(20, 20, 20, 20, 20, 20, 20, 20);
        for (int lender = 1; lender < 7; lender++) {
            w.stop(lender);
            Check.due("deal", w.haggle(0, lender, 20, 120, 200), 110);
        }
        Check.due("deal with one that runs", w.haggle(0, 7, 20, 200, 200), 200);
        Check.due("all shares", w.house(0, 0), 160);
        gets(w, 251, 250, 0, 0, 0, 0, 0, 0, 1);
    }
}
