import java.util.function.Supplier;

/** The edges of haggling, of prices, shares and leases: "HAGGLING", step 7, promises 14, 23 and 24. */
public final class HaggleBoundsTest {
    public static void main(String[] args) {
        rangesOfArguments();
        orderOfErrors();
        bidAgainstTheAsk();
        halfOfTheAsk();
        pricesAtTheirEnds();
        twiceWhileItRuns();
        coinsOfTheOneThatWants();
        moreCoinsThanAtFirst();
        sharesThatAreNotLent();
        sharesToAskFor();
        mostLeases();
        minutesOfALease();
        leasesComeEarlier();
        numbersOfLeases();
        Check.end();
    }

    private static HaggleWash rich() {
        HaggleWash x = new HaggleWash();
        x.addHouse(20, 1, 9999);
        x.addHouse(20, 1, 9999);
        x.pass(1);
        x.keep();
        x.pass(1);
        return x;
    }

    /** "shares: 1 to 20", "bid: 1 to 9999", "minutes: 1 to 240" */
    private static void rangesOfArguments() {
        Bounds.range("shares", HaggleBoundsTest::rich, (x, n) -> x.haggle(0, 1, n, 20, 9), 1, 20, -2,
                n -> (20 + n) / 2);
        Bounds.range("bid", HaggleBoundsTest::rich, (x, n) -> x.haggle(0, 1, 1, n, 9), 1, 9999, -2, n -> (1 + n) / 2);
        Bounds.range("minutes", HaggleBoundsTest::rich, (x, n) -> x.haggle(0, 1, 1, 1, n), 1, 240, -2, n -> 1);
        for (int[] row : new int[][] {{1, 1, 1}, {2, 2, 2}, {19, 9998, 239}, {20, 9999, 240}}) {
            HaggleWash x = rich();
            x.haggle(0, 1, row[0], row[1], row[2]);
            Check.due("shares of the lease", x.lease(0, 2), row[0]);
            Check.due("minutes of the lease", x.lease(0, 3), row[2]);
            Check.due("coins of the lease", x.lease(0, 4), (row[1] + row[0]) / 2);
        }
    }

    /** Two houses of 2 shares and 10 coins; ten leases among two others, where there are to be so many. */
    private static HaggleWash poor(boolean full) {
        HaggleWash x = new HaggleWash();
        x.addHouse(2, 5, 10);
        x.addHouse(2, 5, 10);
        x.addHouse(20, 1, 9999);
        x.addHouse(20, 1, 9999);
        for (int i = 0; full && i < 10; i++) {
            Check.holds("deal", x.haggle(2, 3, 1, 60, 60) > 0);
        }
        return x;
    }

    private static void refused(String call, boolean full, int[] c, int due) {
        Bounds.refused(call, () -> poor(full), x -> x.haggle(c[0], c[1], c[2], c[3], c[4]), due);
    }

    /** "UNKNOWN (house, other); BAD_VALUE (..); NOT_POSSIBLE if ..; FULL if there are 10 leases" */
    private static void orderOfErrors() {
        int[][] unknown = {{-1, 0, 1, 5, 5}, {0, -1, 1, 5, 5}, {4, 0, 1, 5, 5}, {0, 4, 1, 5, 5}, {4, 4, 1, 5, 5},
            {-1, 1, 0, 0, 0}, {0, 4, 3, 11, 241}};
        for (int[] c : unknown) {
            refused("haggle of no house", false, c, -1);
            refused("haggle of no house, full", true, c, -1);
        }
        int[][] bad = {{0, 0, 1, 5, 5}, {1, 1, 3, 11, 5}, {0, 1, 21, 5, 5}, {0, 1, 0, 11, 5}, {0, 1, 3, 10000, 5},
            {0, 1, 3, 0, 5}, {0, 1, 3, 11, 0}, {0, 1, 3, 11, 241}};
        for (int[] c : bad) {
            refused("bad haggle", false, c, -2);
            refused("bad haggle, full", true, c, -2);
        }
        int[][] notPossible = {{0, 1, 3, 5, 5}, {0, 1, 1, 11, 5}, {0, 1, 3, 11, 5}, {0, 1, 20, 9999, 240}};
        for (int[] c : notPossible) {
            refused("haggle that is not possible", false, c, -4);
            refused("haggle that is not possible, full", true, c, -4);
        }
        int[][] possible = {{0, 1, 2, 10, 5}, {0, 1, 1, 1, 5}, {0, 1, 1, 3, 5}};
        int[] answers = {10, 0, 0};
        for (int i = 0; i < possible.length; i++) {
            int[] c = possible[i];
            refused("haggle", true, c, -3);
            Check.due("haggle", poor(false).haggle(c[0], c[1], c[2], c[3], c[4]), answers[i]);
        }
    }

    /** House 0 haggles with house 1, of some price, for some shares. */
    private static void haggle(int price, int shares, int bid, int paid, int priceThen) {
        HaggleWash x = new HaggleWash();
        x.addHouse(20, 7, 5000);
        x.addHouse(20, price, 5000);
        String call = "haggle at " + price + " for " + shares + " with " + bid;
        Check.due("ask for " + shares + " at " + price, x.ask(1, shares), shares * price);
        Check.due(call, x.haggle(0, 1, shares, bid, 9), paid);
        int deals = bid >= shares * price ? 1 : 0;
        int[] wanting = {20 + deals * shares, 20, 7, 5000 - paid, 0, 0, deals, 1 - deals, paid, 0};
        int[] other = {20 - deals * shares, 20, priceThen, 5000 + paid, 0, 0, 0, 0, 0, paid};
        for (int what = 0; what < wanting.length; what++) {
            Check.due(call + ", house(0, " + what + ")", x.house(0, what), wanting[what]);
            Check.due(call + ", house(1, " + what + ")", x.house(1, what), other[what]);
        }
        Check.due(call + ", leases", x.count(7), deals);
        Check.due(call + ", deals", x.count(8), deals);
        Check.due(call + ", without one", x.count(9), 1 - deals);
        Check.due(call + ", states", x.count(13), 3);
    }

    /** "If the bid is not less than that, there is a deal: (bid + ask) / 2 coins (rounded down) are paid" */
    private static void bidAgainstTheAsk() {
        haggle(5, 3, 14, 0, 4);
        haggle(5, 3, 15, 15, 6);
        haggle(5, 3, 16, 15, 6);
        haggle(5, 3, 17, 16, 6);
        haggle(5, 3, 18, 16, 6);
        haggle(1, 1, 1, 1, 2);
        haggle(1, 1, 2, 1, 2);
        haggle(1, 1, 3, 2, 2);
        haggle(50, 20, 999, 0, 49);
        haggle(50, 20, 1000, 1000, 50);
        haggle(50, 20, 1001, 1000, 50);
        haggle(50, 20, 5000, 3000, 50);
    }

    /** "Otherwise, if 2 * bid is not less than the ask, .. becomes less by 1", "Otherwise .. greater by 1" */
    private static void halfOfTheAsk() {
        haggle(5, 3, 7, 0, 6);
        haggle(5, 3, 8, 0, 4);
        haggle(5, 4, 9, 0, 6);
        haggle(5, 4, 10, 0, 4);
        haggle(5, 4, 11, 0, 4);
        haggle(2, 1, 1, 0, 1);
        haggle(3, 1, 1, 0, 4);
        haggle(3, 1, 2, 0, 2);
        haggle(50, 20, 499, 0, 50);
        haggle(50, 20, 500, 0, 49);
        haggle(50, 20, 501, 0, 49);
    }

    /** "(at most 50)" behind a deal and without one, "(at least 1)" */
    private static void pricesAtTheirEnds() {
        haggle(48, 2, 96, 96, 49);
        haggle(49, 2, 98, 98, 50);
        haggle(50, 2, 100, 100, 50);
        haggle(48, 2, 1, 0, 49);
        haggle(49, 2, 1, 0, 50);
        haggle(50, 2, 1, 0, 50);
        haggle(3, 2, 5, 0, 2);
        haggle(2, 2, 3, 0, 1);
        haggle(1, 2, 1, 0, 1);
        haggle(1, 20, 19, 0, 1);
        haggle(1, 20, 10, 0, 1);
        haggle(1, 20, 9, 0, 2);
    }

    /** "twice as much if its washer runs" */
    private static void twiceWhileItRuns() {
        int[][] rows = {{29, 0, 4}, {30, 30, 6}, {31, 30, 6}, {15, 0, 4}, {14, 0, 6}};
        for (int[] row : rows) {
            HaggleWash x = Check.streetOf(3, 3);
            Check.run(x, 1, "w9");
            Check.due("ask", x.ask(1, 3), 30);
            Check.due("haggle with " + row[0], x.haggle(0, 1, 3, row[0], 9), row[1]);
            Check.due("price", x.house(1, 2), row[2]);
        }
        HaggleWash x = Check.streetOf(3, 3);
        Check.run(x, 1, "w1;h50");
        Check.run(x, 0, "w9");
        x.pass(1);
        Check.due("runs", x.ask(1, 3), 30);
        x.power(false);
        Check.due("runs without power", x.ask(1, 3), 30);
        x.power(true);
        x.pass(1);
        Check.due("is stuck", x.ask(1, 3), 15);
        Check.due("the one that wants runs", x.haggle(0, 1, 3, 15, 9), 15);
        x.stop(0);
        Check.due("rests", x.ask(0, 3), 15);
    }

    /** "the house has fewer coins than the bid" */
    private static void coinsOfTheOneThatWants() {
        for (int coins : new int[] {1, 2, 100, 9998}) {
            Supplier<HaggleWash> street = () -> {
                HaggleWash x = new HaggleWash();
                x.addHouse(5, 1, coins);
                x.addHouse(5, 1, 0);
                return x;
            };
            Bounds.refused("bid of one more than " + coins, street, x -> x.haggle(0, 1, 1, coins + 1, 9), -4);
            HaggleWash x = street.get();
            Check.due("bid of all " + coins, x.haggle(0, 1, 1, coins, 9), (coins + 1) / 2);
            Check.due("coins", x.house(0, 3), coins - (coins + 1) / 2);
            Bounds.refused("bid of one without coins", street, y -> y.haggle(1, 0, 1, 1, 9), -4);
        }
        HaggleWash x = new HaggleWash();
        x.addHouse(5, 5, 5);
        x.addHouse(5, 5, 0);
        Check.due("all its coins", x.haggle(0, 1, 1, 5, 9), 5);
        Check.due("none are left", x.house(0, 3), 0);
        Check.due("one coin", x.haggle(0, 1, 1, 1, 9), -4);
        Check.due("those that it was paid", x.haggle(1, 0, 1, 5, 9), 5);
    }

    /** "coins (0 to 9999 at first; haggling can make them more)" */
    private static void moreCoinsThanAtFirst() {
        HaggleWash x = rich();
        Check.due("deal", x.haggle(0, 1, 1, 1, 9), 1);
        Check.due("coins", x.house(1, 3), 10000);
        Check.due("deal", x.haggle(0, 1, 19, 9998, 9), (9998 + 38) / 2);
        Check.due("coins", x.house(1, 3), 10000 + 5018);
        Check.due("most of a bid", x.haggle(1, 0, 20, 9999, 9), (9999 + 20) / 2);
        Check.due("coins", x.house(1, 3), 10000 + 5018 - 5009);
        Check.due("coins", x.house(0, 3), 9999 - 1 - 5018 + 5009);
    }

    /** "NOT_POSSIBLE if the other one has not so many own shares that it has not lent" */
    private static void sharesThatAreNotLent() {
        for (int lent = 1; lent <= 4; lent++) {
            int gone = lent;
            Supplier<HaggleWash> street = () -> {
                HaggleWash x = Check.streetOf(5, 5, 5);
                x.haggle(0, 1, gone, 50, 9);
                x.haggle(1, 2, 3, 50, 9);
                return x;
            };
            HaggleWash x = street.get();
            Check.due("shares", x.house(1, 0), 5 - lent + 3);
            Bounds.refused("one more", street, y -> y.haggle(2, 1, 6 - gone, 99, 9), -4);
            Bounds.refused("ask for one more", street, y -> y.ask(1, 6 - gone), -4);
            Check.due("ask for all that are left", x.ask(1, 5 - lent), (5 - lent) * 6);
            Check.holds("all that are left", x.haggle(2, 1, 5 - lent, 99, 9) > 0);
            Check.due("those that are lent to it", x.house(1, 0), 3);
            Check.due("none is left", x.haggle(2, 1, 1, 99, 9), -4);
            Check.due("none is left", x.ask(1, 1), -4);
            Check.due("all shares", x.count(12), 15);
        }
        HaggleWash y = Check.streetOf(2, 20);
        y.haggle(0, 1, 20, 100, 9);
        Check.due("more than 20 shares", y.house(0, 0), 22);
        Check.due("no shares", y.house(1, 0), 0);
        Check.due("only its own ones", y.ask(0, 3), -4);
        Check.due("its own ones", y.ask(0, 2), 10);
    }

    /** "shares: 1 to 20", "UNKNOWN; BAD_VALUE; NOT_POSSIBLE if .." */
    private static void sharesToAskFor() {
        Bounds.range("ask", HaggleBoundsTest::rich, (x, n) -> x.ask(0, n), 1, 20, -2, n -> n);
        for (int shares : new int[] {0, 21}) {
            Bounds.refused("ask of one that has fewer", x -> x.ask(0, shares), -2);
            Bounds.refused("ask of no house", x -> x.ask(4, shares), -1);
        }
        Bounds.refused("ask for one more", x -> x.ask(0, 4), -4);
        Check.due("ask for all", Bounds.busy().ask(0, 3), 30);
        Bounds.refused("ask of no house for more", x -> x.ask(-1, 20), -1);
    }

    private static HaggleWash leases(int count) {
        HaggleWash x = Check.streetOf(10, 5);
        for (int i = 0; i < count; i++) {
            Check.holds("deal", x.haggle(1, 0, 1, 90, 2 + i) > 0);
        }
        return x;
    }

    /** "There are at most 10 leases at a time", "FULL if there are 10 leases" */
    private static void mostLeases() {
        HaggleWash x = leases(9);
        Check.due("the tenth", x.haggle(0, 1, 1, 5, 9), 5);
        Check.due("leases", x.count(7), 10);
        Bounds.refused("the eleventh", () -> leases(10), y -> y.haggle(0, 1, 1, 5, 9), -3);
        Bounds.refused("the eleventh, close", () -> leases(10), y -> y.haggle(0, 1, 1, 4, 9), -3);
        Bounds.refused("the eleventh, far below", () -> leases(10), y -> y.haggle(0, 1, 1, 1, 9), -3);
        HaggleWash z = leases(10);
        z.pass(2);
        Check.due("one is over", z.count(7), 9);
        Check.due("the tenth again", z.haggle(0, 1, 1, 5, 9), 5);
        Check.due("the eleventh", z.haggle(0, 1, 1, 9, 9), -3);
        HaggleWash u = leases(10);
        u.undo();
        Check.due("the tenth again", u.haggle(0, 1, 1, 5, 9), 5);
        HaggleWash w = leases(10);
        w.pass(60);
        Check.due("all are over", w.count(7), 0);
    }

    /** "Each lease has 1 minute less left; one that has 0 left is over" */
    private static void minutesOfALease() {
        for (int minutes : new int[] {1, 2, 3, 59, 60, 61, 239, 240}) {
            HaggleWash x = Check.streetOf(5, 5);
            x.haggle(0, 1, 2, 50, minutes);
            Check.due("minutes", x.lease(0, 3), minutes);
            Check.passLong(x, minutes - 1);
            Check.due("the last minute", x.lease(0, 3), 1);
            Check.due("shares", x.house(0, 0), 7);
            x.pass(1);
            Check.due("is over", x.lease(0, 3), -1);
            Check.due("leases", x.count(7), 0);
            Check.due("shares", x.house(0, 0), 5);
            Check.due("shares", x.house(1, 0), 5);
        }
        HaggleWash x = Check.streetOf(5, 5);
        x.haggle(0, 1, 2, 50, 1);
        x.power(false);
        x.pass(1);
        Check.due("over without power", x.count(7), 0);
    }

    /** "when one is over, the later ones come one number earlier" */
    private static void leasesComeEarlier() {
        // lender, borrower, shares, minutes, coins
        int[][] leases = {{0, 1, 1, 2, 5}, {1, 2, 2, 1, 10}, {2, 0, 3, 3, 15}, {0, 2, 2, 1, 12}, {1, 0, 1, 2, 6},
            {2, 1, 3, 4, 18}};
        HaggleWash x = Check.streetOf(7, 7, 7);
        for (int[] lease : leases) {
            Check.due("deal", x.haggle(lease[1], lease[0], lease[2], lease[4], lease[3]), lease[4]);
        }
        int[][] left = {{0, 1, 2, 3, 4, 5}, {0, 2, 4, 5}, {2, 5}, {5}, {}};
        for (int passed = 0; passed < left.length; passed++) {
            int[] there = left[passed];
            Check.due("leases", x.count(7), there.length);
            for (int i = 0; i < there.length; i++) {
                for (int what = 0; what < 5; what++) {
                    int due = leases[there[i]][what] - (what == 3 ? passed : 0);
                    Check.due("lease(" + i + ", " + what + ") after " + passed, x.lease(i, what), due);
                }
            }
            Check.due("behind the last", x.lease(there.length, 0), -1);
            x.pass(1);
        }
        int[] paid = {21, 23, 22};
        int[] received = {17, 16, 33};
        for (int house = 0; house < paid.length; house++) {
            Check.due("paid", x.house(house, 8), paid[house]);
            Check.due("received", x.house(house, 9), received[house]);
            Check.due("deals", x.house(house, 6), 2);
            Check.due("shares", x.house(house, 0), 7);
        }
    }

    /** "numbered from 0", "UNKNOWN; BAD_VALUE" */
    private static void numbersOfLeases() {
        for (int count : new int[] {0, 1, 2, 9, 10}) {
            Bounds.known("lease", () -> leases(count), (x, n) -> x.lease(n, 2), 0, count - 1, -1);
            Bounds.refused("no lease, no such number", () -> leases(count), x -> x.lease(count, 5), -1);
        }
        Bounds.known("number of a lease", () -> leases(1), (x, n) -> x.lease(0, n), 0, 4, -2);
    }
}
