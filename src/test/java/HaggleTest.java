/** Promises 14, 23 and 24: haggling, leases and what is asked. */
public final class HaggleTest {
    public static void main(String[] args) {
        wrongArguments();
        orderOfErrors();
        deal();
        dealOverTheAsk();
        twiceWhileItRuns();
        noDeals();
        endsOfThePrice();
        lentShares();
        lentSharesAreNotLentOn();
        mostLeases();
        richHouses();
        ask();
        lease();
        Check.end();
    }

    private static void wrongArguments() {
        HaggleWash x = Check.streetOf(20, 20);
        int[][] unknown = {{-1, 0}, {0, -1}, {2, 0}, {0, 2}, {-1, -1}, {Integer.MIN_VALUE, Integer.MAX_VALUE}};
        for (int[] u : unknown) {
            Check.due("unknown", x.haggle(u[0], u[1], 0, 0, 0), -1);
        }
        int[][] bad = {{0, 5, 5}, {21, 5, 5}, {-1, 5, 5}, {1, 0, 5}, {1, -1, 5}, {1, 10000, 5}, {1, 5, 0}, {1, 5, 241},
            {1, 5, -1}, {Integer.MAX_VALUE, 5, 5}, {1, Integer.MAX_VALUE, 5}, {1, 5, Integer.MAX_VALUE}};
        for (int[] b : bad) {
            Check.due("bad", x.haggle(0, 1, b[0], b[1], b[2]), -2);
        }
        Check.due("with itself", x.haggle(1, 1, 1, 5, 5), -2);
        Check.due("no act", x.count(13), 2);
        Check.due("no haggle", x.count(9), 0);
        Check.due("least", x.haggle(0, 1, 1, 1, 1), 0);
        Check.due("most", x.haggle(0, 1, 20, 200, 240), 160);
    }

    private static void orderOfErrors() {
        HaggleWash x = Check.streetOf(2, 2);
        Check.due("more than it has", x.haggle(0, 1, 3, 5, 5), -4);
        Check.due("more than its coins", x.haggle(0, 1, 1, 1001, 5), -4);
        Check.due("all its coins", x.haggle(0, 1, 1, 1000, 5), 502);
        Check.due("bad before not possible", x.haggle(0, 1, 3, 1001, 0), -2);
        Check.due("unknown before bad", x.haggle(0, 2, 3, 1001, 0), -1);
        Check.due("itself before not possible", x.haggle(0, 0, 3, 1001, 5), -2);
    }

    private static void deal() {
        HaggleWash x = Check.streetOf(3, 4);
        int states = x.count(13);
        Check.due("bid as is asked", x.haggle(0, 1, 3, 15, 7), 15);
        Check.due("act", x.count(13), states + 1);
        int[] house = {6, 3, 5, 985, 0, 0, 1, 0, 15, 0};
        int[] other = {1, 4, 6, 1015, 0, 0, 0, 0, 0, 15};
        for (int what = 0; what < house.length; what++) {
            Check.due("house(0, " + what + ")", x.house(0, what), house[what]);
            Check.due("house(1, " + what + ")", x.house(1, what), other[what]);
        }
        int[] lease = {1, 0, 3, 7, 15};
        for (int what = 0; what < lease.length; what++) {
            Check.due("lease(0, " + what + ")", x.lease(0, what), lease[what]);
        }
        Check.due("leases", x.count(7), 1);
        Check.due("deals", x.count(8), 1);
        Check.due("haggles without one", x.count(9), 0);
        Check.due("all shares", x.count(12), 7);
        x.undo();
        Check.due("shares after undo", x.house(0, 0), 3);
        Check.due("coins after undo", x.house(0, 3), 1000);
        Check.due("leases after undo", x.count(7), 0);
    }

    private static void dealOverTheAsk() {
        HaggleWash x = Check.streetOf(3, 4);
        Check.due("between bid and ask, rounded down", x.haggle(0, 1, 3, 20, 7), 17);
        Check.due("coins of the lease", x.lease(0, 4), 17);
        Check.due("coins", x.house(0, 3), 983);
    }

    private static void twiceWhileItRuns() {
        HaggleWash x = Check.streetOf(3, 4);
        Check.run(x, 1, "w1;h50");
        Check.due("ask", x.ask(1, 3), 30);
        Check.due("below", x.haggle(0, 1, 3, 29, 7), 0);
        Check.due("price", x.house(1, 2), 4);
        Check.due("as is asked", x.haggle(0, 1, 3, 24, 7), 24);
        x.pass(2);
        Check.due("stuck", x.washer(1, 0), 2);
        Check.due("ask of a stuck one", x.ask(1, 1), 5);
        Check.run(x, 0, "w9");
        Check.due("the one that wants runs", x.haggle(0, 1, 1, 5, 7), 5);
    }

    private static void noDeals() {
        HaggleWash x = Check.streetOf(3, 4);
        int states = x.count(13);
        Check.due("close", x.haggle(0, 1, 3, 14, 7), 0);
        Check.due("price falls", x.house(1, 2), 4);
        Check.due("act", x.count(13), states + 1);
        Check.due("half of 12", x.haggle(0, 1, 3, 6, 7), 0);
        Check.due("price falls", x.house(1, 2), 3);
        Check.due("less than half of 9", x.haggle(0, 1, 3, 4, 7), 0);
        Check.due("price rises", x.house(1, 2), 4);
        Check.due("more than half of 4", x.haggle(0, 1, 1, 3, 7), 0);
        Check.due("price falls", x.house(1, 2), 3);
        Check.due("less than half of 3", x.haggle(0, 1, 1, 1, 7), 0);
        Check.due("price rises", x.house(1, 2), 4);
        Check.due("haggles of the house", x.house(0, 7), 5);
        Check.due("haggles of the other", x.house(1, 7), 0);
        Check.due("haggles without a deal", x.count(9), 5);
        Check.due("deals", x.count(8), 0);
        Check.due("coins", x.house(0, 3), 1000);
        Check.due("own price", x.house(0, 2), 5);
        Check.due("leases", x.count(7), 0);
    }

    private static void endsOfThePrice() {
        HaggleWash x = new HaggleWash();
        x.addHouse(20, 50, 9999);
        x.addHouse(20, 1, 9999);
        Check.due("deal at 50", x.haggle(1, 0, 1, 50, 1), 50);
        Check.due("price", x.house(0, 2), 50);
        Check.due("far below at 50", x.haggle(1, 0, 1, 1, 1), 0);
        Check.due("price", x.house(0, 2), 50);
        Check.due("close at 1", x.haggle(0, 1, 4, 3, 1), 0);
        Check.due("price", x.house(1, 2), 1);
        Check.due("deal at 1", x.haggle(0, 1, 1, 1, 1), 1);
        Check.due("price", x.house(1, 2), 2);
        Check.due("deal at 49", x.haggle(1, 0, 1, 49, 1), 0);
        Check.due("price", x.house(0, 2), 49);
        Check.due("deal at 49", x.haggle(1, 0, 1, 49, 1), 49);
        Check.due("price", x.house(0, 2), 50);
    }

    private static void lentShares() {
        HaggleWash x = Check.streetOf(5, 5, 5);
        x.haggle(0, 1, 2, 100, 9);
        x.haggle(2, 1, 2, 100, 9);
        Check.due("what it has still", x.house(1, 0), 1);
        Check.due("two more", x.haggle(0, 1, 2, 100, 9), -4);
        Check.due("ask for two more", x.ask(1, 2), -4);
        Check.holds("one more", x.haggle(0, 1, 1, 100, 9) > 0);
        Check.due("nothing is left", x.house(1, 0), 0);
        Check.due("own ones", x.house(1, 1), 5);
        Check.due("borrowed", x.house(0, 0), 8);
        Check.due("borrowed", x.house(2, 0), 7);
        Check.due("all shares", x.count(12), 15);
        x.pass(9);
        Check.due("all are back", x.house(1, 0), 5);
        Check.due("all are back", x.house(0, 0), 5);
    }

    private static void lentSharesAreNotLentOn() {
        HaggleWash x = Check.streetOf(2, 5, 5);
        x.haggle(0, 1, 4, 100, 9);
        Check.due("has more shares", x.house(0, 0), 6);
        Check.due("ask beyond its own ones", x.ask(0, 3), -4);
        Check.due("haggle beyond its own ones", x.haggle(2, 0, 3, 100, 9), -4);
        Check.holds("its own ones", x.haggle(2, 0, 2, 100, 9) > 0);
        Check.due("those that are lent to it", x.house(0, 0), 4);
        Check.due("one that lends and borrows", x.haggle(1, 0, 1, 100, 9), -4);
    }

    private static void mostLeases() {
        HaggleWash x = Check.streetOf(10, 2);
        for (int i = 0; i < 10; i++) {
            Check.holds("deal", x.haggle(1, 0, 1, 90, i + 1) > 0);
            Check.due("leases", x.count(7), i + 1);
        }
        Check.due("eleventh of the same house", x.haggle(1, 0, 1, 90, 5), -4);
        Check.due("eleventh", x.haggle(0, 1, 1, 90, 5), -3);
        Check.due("eleventh, without a deal", x.haggle(0, 1, 1, 1, 5), -3);
        Check.due("eleventh, more than its coins", x.haggle(0, 1, 1, 9999, 5), -4);
        Check.due("price stays", x.house(1, 2), 5);
        x.pass(1);
        Check.due("one is over", x.count(7), 9);
        Check.holds("room for one", x.haggle(0, 1, 1, 90, 5) > 0);
        Check.due("it comes last", x.lease(9, 0), 1);
        x.pass(2);
        Check.due("three are over", x.count(7), 8);
        Check.due("the last one", x.lease(7, 0), 1);
        Check.due("minutes of the last one", x.lease(7, 3), 3);
        Check.due("minutes of the first one", x.lease(0, 3), 1);
    }

    private static void richHouses() {
        HaggleWash x = new HaggleWash();
        x.addHouse(20, 50, 9999);
        x.addHouse(20, 50, 9999);
        Check.due("deal", x.haggle(0, 1, 20, 9999, 240), 5499);
        Check.due("more than 9999 coins", x.house(1, 3), 15498);
        Check.due("bid beyond its range", x.haggle(1, 0, 1, 10000, 240), -2);
        Check.due("minutes", x.lease(0, 3), 240);
        Check.passLong(x, 239);
        Check.due("the last minute", x.lease(0, 3), 1);
        x.pass(1);
        Check.due("is over", x.lease(0, 3), -1);
    }

    private static void ask() {
        HaggleWash x = Check.streetOf(20, 3);
        Check.due("house", x.ask(-1, 1), -1);
        Check.due("house before shares", x.ask(2, 0), -1);
        Check.due("0 shares", x.ask(0, 0), -2);
        Check.due("21 shares", x.ask(0, 21), -2);
        Check.due("shares", x.ask(0, Integer.MAX_VALUE), -2);
        Check.due("all shares", x.ask(0, 20), 100);
        Check.due("a share", x.ask(0, 1), 5);
        Check.due("all of 3", x.ask(1, 3), 15);
        Check.due("more than 3", x.ask(1, 4), -4);
        Check.program(x, 0, "w9");
        x.start(0);
        Check.due("while it runs", x.ask(0, 20), 200);
        x.undo();
        Check.due("no act, so undo takes back the start", x.washer(0, 0), 0);
    }

    private static void lease() {
        HaggleWash x = Check.streetOf(5, 5);
        Check.due("no lease", x.lease(0, 0), -1);
        Check.due("unknown before bad", x.lease(0, 5), -1);
        x.haggle(0, 1, 1, 100, 9);
        Check.due("lease -1", x.lease(-1, 0), -1);
        Check.due("lease 1", x.lease(1, 0), -1);
        Check.due("lease 10", x.lease(10, 0), -1);
        Check.due("what -1", x.lease(0, -1), -2);
        Check.due("what 5", x.lease(0, 5), -2);
        Check.due("what 4", x.lease(0, 4), 52);
        HaggleWash y = Check.streetOf(5, 5, 5, 5);
        y.haggle(2, 1, 1, 5, 9);
        y.haggle(3, 2, 2, 20, 4);
        y.pass(1);
        y.keep();
        int[] first = {1, 2, 1, 8, 5};
        int[] second = {2, 3, 2, 3, 15};
        for (int round = 0; round < 3; round++) {
            for (int what = 0; what < 5; what++) {
                Check.due("lease(0, " + what + ")", y.lease(0, what), first[what]);
                Check.due("lease(1, " + what + ")", y.lease(1, what), second[what]);
            }
            y.pass(20);
            Check.due("none", y.lease(0, 0), -1);
            y.haggle(0, 3, 5, 900, 200);
            y.restore();
        }
    }
}
