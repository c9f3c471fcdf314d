import java.util.ArrayList;
import java.util.List;
import java.util.function.ToIntFunction;

/** Promises 15 to 17, and that acts alone are recorded. */
public final class HistoryTest {
    public static void main(String[] args) {
        undoOfNothing();
        fourStates();
        undoOfEachAct();
        errorsAndQuestionsRecordNothing();
        keepAndRestore();
        restoreIsAnAct();
        textIsNoPart();
        housesThatWereTakenBack();
        anotherHouseInItsPlace();
        forecastsChangeNothing();
        forecastsKnowTheShares();
        Check.end();
    }

    private static void undoOfNothing() {
        HaggleWash x = new HaggleWash();
        Check.due("undo", x.undo(), -5);
        x.pass(1);
        Check.due("undo", x.undo(), 0);
        Check.due("minute", x.count(0), 0);
        Check.due("undo", x.undo(), -5);
    }

    private static void fourStates() {
        HaggleWash x = new HaggleWash();
        List<String> told = new ArrayList<>();
        for (int i = 0; i < 11; i++) {
            told.add(Check.told(x));
            x.pass(1);
            Check.due("states", x.count(13), Math.min(4, i + 1));
        }
        for (int i = 10; i >= 7; i--) {
            Check.due("undo", x.undo(), i - 7);
            Check.due("states", x.count(13), i - 7);
            Check.holds("the state before", Check.told(x).equals(told.get(i)));
        }
        Check.due("undo", x.undo(), -5);
        Check.due("minute", x.count(0), 7);
        x.pass(5);
        x.pass(6);
        Check.due("undo after new ones", x.undo(), 1);
        Check.due("minute", x.count(0), 12);
    }

    /** Two houses; the washer of 0 runs, that of 1 is stuck, with water, and its door is closed. */
    private static HaggleWash busy() {
        HaggleWash x = Check.streetOf(3, 4);
        Check.run(x, 0, "f60;h50;w9");
        Check.run(x, 1, "f6;s1");
        x.pass(12);
        x.haggle(0, 1, 1, 50, 30);
        x.keep();
        x.pass(2);
        Check.write(x, "w7");
        return x;
    }

    private static void undoOfEachAct() {
        List<ToIntFunction<HaggleWash>> acts = new ArrayList<>();
        acts.add(x -> x.addHouse(1, 1, 0));
        acts.add(x -> x.set(0, 30000));
        acts.add(x -> x.set(3, 50));
        acts.add(x -> x.power(false));
        acts.add(x -> x.pass(7));
        acts.add(x -> x.readProgram(1));
        acts.add(x -> x.stop(0));
        acts.add(x -> x.stop(1));
        acts.add(x -> x.bail(1));
        acts.add(x -> x.openDoor(1));
        acts.add(x -> x.haggle(1, 0, 2, 90, 9));
        acts.add(x -> x.haggle(1, 0, 2, 1, 9));
        acts.add(HaggleWash::restore);
        for (int i = 0; i < acts.size(); i++) {
            HaggleWash x = busy();
            String before = Check.told(x);
            Check.due("states", x.count(13), 4);
            Check.holds("act " + i, acts.get(i).applyAsInt(x) >= 0);
            Check.holds("act " + i + " changes something", !Check.told(x).equals(before));
            Check.due("undo of act " + i, x.undo(), 3);
            Check.holds("undo of act " + i + " brings all back", Check.told(x).equals(before));
        }
        HaggleWash x = Check.streetOf(1);
        Check.program(x, 0, "w3");
        x.openDoor(0);
        String before = Check.told(x);
        x.closeDoor(0);
        x.undo();
        Check.holds("undo of closeDoor", Check.told(x).equals(before));
        x.closeDoor(0);
        before = Check.told(x);
        x.start(0);
        x.undo();
        Check.holds("undo of start", Check.told(x).equals(before));
    }

    private static void errorsAndQuestionsRecordNothing() {
        HaggleWash x = busy();
        x.undo();
        x.undo();
        String before = Check.told(x);
        int[] answers = {x.addHouse(0, 1, 0), x.set(0, 20000), x.set(0, 1), x.set(0, 9000), x.power(true), x.pass(0),
            x.readProgram(2), x.readProgram(0), x.start(0), x.start(1), x.start(7), x.stop(2), x.bail(0), x.bail(2),
            x.openDoor(0), x.closeDoor(0), x.closeDoor(1), x.haggle(0, 0, 1, 1, 1), x.haggle(0, 1, 20, 1, 1)};
        for (int i = 0; i < answers.length; i++) {
            Check.holds("error " + i, answers[i] < 0);
        }
        x.overIn(0);
        x.freeIn(0);
        x.heatNext(0);
        x.ask(0, 1);
        x.keep();
        x.type('w');
        Check.due("states", x.count(13), 2);
        Check.holds("nothing has changed", Check.told(x).equals(before));
    }

    private static void keepAndRestore() {
        HaggleWash x = Check.streetOf(3, 4);
        Check.due("restore without a snapshot", x.restore(), -5);
        Check.due("no act", x.count(13), 2);
        x.pass(5);
        Check.due("keep", x.keep(), 5);
        String kept = Check.told(x);
        Check.run(x, 0, "f60;h50;w9");
        x.pass(12);
        x.haggle(0, 1, 1, 50, 30);
        x.set(2, 77);
        Check.due("restore", x.restore(), 5);
        Check.holds("the snapshot", Check.told(x).equals(kept));
        x.pass(9);
        x.openDoor(0);
        Check.due("restore once more", x.restore(), 5);
        Check.holds("the snapshot stays", Check.told(x).equals(kept));
        x.pass(9);
        Check.due("keep in its place", x.keep(), 14);
        x.pass(9);
        Check.due("restore the new one", x.restore(), 14);
        Check.due("minute", x.count(0), 14);
    }

    private static void restoreIsAnAct() {
        HaggleWash x = Check.streetOf(3);
        x.keep();
        Check.due("keep is no act", x.count(13), 1);
        x.pass(3);
        String before = Check.told(x);
        Check.due("restore", x.restore(), 0);
        Check.due("states", x.count(13), 3);
        Check.due("undo of restore", x.undo(), 2);
        Check.holds("undo of restore", Check.told(x).equals(before));
        Check.due("the snapshot is no part of a state", x.restore(), 0);
        Check.due("restore of what is so already", x.restore(), 0);
        Check.due("is an act", x.count(13), 4);
        HaggleWash y = Check.streetOf(3);
        y.undo();
        y.keep();
        y.addHouse(2, 2, 2);
        y.pass(4);
        Check.due("restore", y.restore(), 0);
        Check.due("no house", y.count(2), 0);
        y.undo();
        Check.due("a house", y.house(0, 1), 2);
        Check.due("restore after undo", y.restore(), 0);
        Check.due("no house", y.count(2), 0);
    }

    private static void textIsNoPart() {
        HaggleWash x = Check.streetOf(3);
        Check.write(x, "w1");
        x.keep();
        x.pass(1);
        x.type('2');
        x.undo();
        Check.due("text", x.count(14), 3);
        x.clearText();
        x.restore();
        Check.due("text", x.count(14), 0);
        x.undo();
        Check.due("text", x.count(14), 0);
    }

    private static void housesThatWereTakenBack() {
        HaggleWash x = Check.streetOf(3, 4);
        x.undo();
        x.addHouse(5, 5, 500);
        String fresh = Check.told(x);
        x.undo();
        x.addHouse(9, 9, 900);
        x.openDoor(1);
        Check.due("undo of openDoor", x.undo(), 2);
        Check.due("undo of addHouse", x.undo(), 1);
        x.addHouse(5, 5, 500);
        Check.holds("a new house", Check.told(x).equals(fresh));
        HaggleWash y = Check.streetOf(3);
        y.keep();
        y.addHouse(4, 5, 1000);
        Check.run(y, 1, "f60;w9");
        y.haggle(1, 0, 1, 100, 9);
        y.haggle(1, 0, 1, 1, 9);
        y.pass(20);
        y.restore();
        Check.due("addHouse", y.addHouse(7, 7, 7), 1);
        int[] washer = {0, -5, 0, 15, 0, 1, -5, 0, 0};
        for (int what = 0; what < washer.length; what++) {
            Check.due("washer(1, " + what + ")", y.washer(1, what), washer[what]);
        }
        int[] house = {7, 7, 7, 7, 0, 0, 0, 0, 0, 0};
        for (int what = 0; what < house.length; what++) {
            Check.due("house(1, " + what + ")", y.house(1, what), house[what]);
        }
    }

    private static void anotherHouseInItsPlace() {
        HaggleWash x = new HaggleWash();
        x.addHouse(9, 8, 7);
        x.keep();
        x.undo();
        x.addHouse(2, 3, 4);
        x.restore();
        Check.due("shares of the snapshot", x.house(0, 0), 9);
        Check.due("price of the snapshot", x.house(0, 2), 8);
        Check.due("coins of the snapshot", x.house(0, 3), 7);
        x.undo();
        Check.due("shares", x.house(0, 0), 2);
        Check.due("price", x.house(0, 2), 3);
        Check.due("coins", x.house(0, 3), 4);
    }

    private static void forecastsKnowTheShares() {
        HaggleWash x = Check.streetOf(1, 9);
        Check.run(x, 0, "f60;h30");
        Check.run(x, 1, "f60;h30");
        x.set(2, 100);
        x.pass(10);
        int first = x.overIn(0);
        int second = x.overIn(1);
        Check.holds("more shares, less time", second < first);
        x.pass(second);
        Check.due("is over", x.washer(1, 0), 0);
        Check.due("runs still", x.washer(0, 0), 1);
        x.pass(first - second - 1);
        Check.due("runs still", x.washer(0, 0), 1);
        x.pass(1);
        Check.due("is over", x.washer(0, 0), 0);
    }

    private static void forecastsChangeNothing() {
        HaggleWash x = busy();
        String before = Check.told(x);
        int states = x.count(13);
        for (int house = 0; house < 2; house++) {
            x.overIn(house);
            x.freeIn(house);
            x.heatNext(house);
        }
        Check.holds("the state", Check.told(x).equals(before));
        Check.due("the states", x.count(13), states);
        Check.due("the snapshot", x.restore(), 12);
    }
}
