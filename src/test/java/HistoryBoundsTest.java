import java.util.ArrayList;
import java.util.List;
import java.util.function.ToIntFunction;

/** The edges of the history and of the snapshot: "HISTORY", "ERRORS", promises 15 to 17. */
public final class HistoryBoundsTest {
    public static void main(String[] args) {
        emptyHistory();
        noSnapshot();
        mostStates();
        undoneStatesAreGone();
        eachActIsRecorded();
        everyPartOfAState();
        actsThatLeaveAllAsItWas();
        noActsAreNotRecorded();
        snapshotInPlaceOfAnother();
        snapshotOutsideTheState();
        textOutsideTheState();
        restoreIntoTheFullHistory();
        Check.end();
    }

    /** "NONE if the history is empty" */
    private static void emptyHistory() {
        Bounds.refused("undo at first", HaggleWash::new, HaggleWash::undo, -5);
        Bounds.refused("undo of what is undone", () -> {
            HaggleWash x = Bounds.busy();
            for (int left = 3; left >= 0; left--) {
                Check.due("undo", x.undo(), left);
            }
            return x;
        }, HaggleWash::undo, -5);
        HaggleWash x = new HaggleWash();
        x.addHouse(1, 1, 1);
        Check.due("undo of one act", x.undo(), 0);
        Check.due("houses", x.count(2), 0);
        Check.due("undo", x.undo(), -5);
    }

    /** "There is one snapshot, empty at first." "NONE if there is no snapshot" */
    private static void noSnapshot() {
        Bounds.refused("restore at first", HaggleWash::new, HaggleWash::restore, -5);
        Bounds.refused("restore without a snapshot", () -> {
            HaggleWash x = Check.streetOf(1, 2);
            x.pass(3);
            return x;
        }, HaggleWash::restore, -5);
        HaggleWash x = new HaggleWash();
        Check.due("keep at first", x.keep(), 0);
        Check.due("restore", x.restore(), 0);
        Check.due("states", x.count(13), 1);
    }

    /** "A history of at most 4 states is kept; when one more is recorded, the oldest one is dropped" */
    private static void mostStates() {
        for (int acts = 0; acts <= 9; acts++) {
            HaggleWash x = new HaggleWash();
            for (int i = 0; i < acts; i++) {
                x.pass(i + 1);
            }
            int states = Math.min(4, acts);
            Check.due("states behind " + acts, x.count(13), states);
            for (int left = states - 1; left >= 0; left--) {
                Check.due("undo", x.undo(), left);
                Check.due("states", x.count(13), left);
                int before = acts - states + left;
                Check.due("minute", x.count(0), before * (before + 1) / 2);
            }
            Check.due("undo", x.undo(), -5);
            Check.due("states", x.count(13), 0);
        }
    }

    /** "undo() removes and restores the latest one" */
    private static void undoneStatesAreGone() {
        HaggleWash x = new HaggleWash();
        for (int i = 0; i < 6; i++) {
            x.pass(10);
        }
        x.undo();
        x.undo();
        Check.due("minute", x.count(0), 40);
        x.pass(1);
        Check.due("states", x.count(13), 3);
        int[] minutes = {40, 30, 20};
        for (int i = 0; i < minutes.length; i++) {
            Check.due("undo", x.undo(), 2 - i);
            Check.due("minute", x.count(0), minutes[i]);
        }
        Check.due("undo", x.undo(), -5);
        Check.due("minute", x.count(0), 20);
    }

    /** "Each call of a method that is described as an act .. records the state that was before it." */
    private static void eachActIsRecorded() {
        List<ToIntFunction<HaggleWash>> acts = new ArrayList<>();
        acts.add(x -> x.addHouse(1, 1, 0));
        acts.add(x -> x.set(0, 60000));
        acts.add(x -> x.set(1, 0));
        acts.add(x -> x.set(2, 10));
        acts.add(x -> x.set(3, 20));
        acts.add(x -> x.power(false));
        acts.add(x -> x.pass(1));
        acts.add(x -> x.pass(60));
        acts.add(x -> x.readProgram(2));
        acts.add(x -> x.start(3));
        acts.add(x -> x.stop(0));
        acts.add(x -> x.stop(1));
        acts.add(x -> x.bail(1));
        acts.add(x -> x.bail(3));
        acts.add(x -> x.openDoor(1));
        acts.add(x -> x.closeDoor(2));
        acts.add(x -> x.haggle(1, 0, 2, 90, 9));
        acts.add(x -> x.haggle(1, 0, 2, 19, 9));
        acts.add(x -> x.haggle(1, 0, 2, 1, 9));
        acts.add(HaggleWash::restore);
        for (int i = 0; i < acts.size(); i++) {
            String before = Check.told(Bounds.busy());
            HaggleWash x = Bounds.busy();
            Check.holds("act " + i + " is taken", acts.get(i).applyAsInt(x) >= 0);
            Check.due("the oldest is dropped", x.count(13), 4);
            Check.holds("act " + i + " changes something", !Check.told(x).equals(before));
            HaggleWash y = Bounds.busy();
            y.undo();
            y.undo();
            String earlier = Check.told(y);
            HaggleWash z = Bounds.busy();
            acts.get(i).applyAsInt(z);
            Check.due("undo of act " + i, z.undo(), 3);
            Check.holds("undo of act " + i + " brings all back", Check.told(z).equals(before));
            z.undo();
            Check.due("undo once more", z.undo(), 1);
            Check.holds("the states before it stay", Check.told(z).equals(earlier));
        }
    }

    /** "A state is everything but the text, the history and the snapshot." */
    private static void everyPartOfAState() {
        String before = Check.told(Bounds.busy());
        HaggleWash x = Bounds.busy();
        x.keep();
        changeAll(x);
        Check.holds("much is changed", !Check.told(x).equals(before));
        Check.due("restore", x.restore(), 13);
        Check.holds("restore brings all back", Check.told(x).equals(before));
        undoneBy(before, y -> y.haggle(3, 2, 1, 9, 9), y -> y.power(false), y -> y.pass(40), y -> y.set(3, 50));
        undoneBy(before, y -> y.start(3), y -> y.pass(2), y -> y.stop(3), y -> y.bail(3));
        undoneBy(before, y -> y.stop(0), y -> y.readProgram(0), y -> y.start(0), y -> y.addHouse(9, 9, 9));
        undoneBy(before, y -> y.haggle(3, 2, 1, 1, 9), y -> y.pass(60), y -> y.openDoor(1), y -> y.closeDoor(2));
    }

    @SafeVarargs
    private static void undoneBy(String before, ToIntFunction<HaggleWash>... acts) {
        HaggleWash x = Bounds.busy();
        for (ToIntFunction<HaggleWash> act : acts) {
            Check.holds("the act is taken", act.applyAsInt(x) >= 0);
        }
        for (int left = 3; left >= 0; left--) {
            Check.due("undo", x.undo(), left);
        }
        Check.holds("undo brings all back", Check.told(x).equals(before));
    }

    private static void changeAll(HaggleWash x) {
        x.addHouse(9, 9, 9);
        x.haggle(3, 2, 1, 9, 9);
        x.haggle(2, 3, 1, 1, 9);
        x.bail(1);
        x.start(3);
        x.closeDoor(2);
        x.readProgram(2);
        x.start(2);
        x.openDoor(1);
        int[] values = {30000, 30, 30, 60};
        for (int what = 0; what < values.length; what++) {
            x.set(what, values[what]);
        }
        x.pass(40);
        x.power(false);
        x.pass(40);
    }

    /** An act is recorded too where the state behind it is as before. */
    private static void actsThatLeaveAllAsItWas() {
        HaggleWash x = Check.streetOf(1);
        x.keep();
        Check.due("restore of what is so", x.restore(), 0);
        Check.due("states", x.count(13), 2);
        Check.write(x, "w9");
        x.readProgram(0);
        Check.due("the same program again", x.readProgram(0), 1);
        Check.due("states", x.count(13), 4);
        Check.due("undo", x.undo(), 3);
        Check.due("the program", x.washer(0, 7), 1);
        Check.due("undo", x.undo(), 2);
        Check.due("no program", x.washer(0, 7), 0);
    }

    /** Texts, keep and all that is told are no acts, and undo is none. */
    private static void noActsAreNotRecorded() {
        List<ToIntFunction<HaggleWash>> calls = new ArrayList<>();
        calls.add(x -> x.type('f'));
        calls.add(HaggleWash::clearText);
        calls.add(HaggleWash::keep);
        calls.add(x -> x.house(0, 0));
        calls.add(x -> x.washer(0, 0));
        calls.add(x -> x.phase(0, 0, 0));
        calls.add(x -> x.boiler(0));
        calls.add(x -> x.heatNext(0));
        calls.add(x -> x.lease(0, 0));
        calls.add(x -> x.ask(0, 1));
        calls.add(x -> x.overIn(0));
        calls.add(x -> x.freeIn(0));
        calls.add(x -> x.freeIn(1));
        calls.add(x -> x.count(0));
        for (int i = 0; i < calls.size(); i++) {
            HaggleWash x = Bounds.busy();
            x.undo();
            Check.holds("call " + i + " is taken", calls.get(i).applyAsInt(x) >= 0);
            Check.due("states behind call " + i, x.count(13), 3);
            HaggleWash y = Bounds.busy();
            y.undo();
            Check.holds("call " + i + " leaves the state", Check.told(x).equals(Check.told(y)));
        }
    }

    /** "Takes a snapshot of the state, in place of the one that was." "Restores the state .., which stays." */
    private static void snapshotInPlaceOfAnother() {
        HaggleWash x = Check.streetOf(1);
        x.pass(1);
        Check.due("keep", x.keep(), 1);
        x.pass(1);
        Check.due("keep", x.keep(), 2);
        x.pass(1);
        for (int i = 0; i < 6; i++) {
            Check.due("restore", x.restore(), 2);
            x.pass(1);
        }
        Check.due("keep what comes then", x.keep(), 3);
        Check.due("restore", x.restore(), 3);
    }

    /** "A state is everything but the text, the history and the snapshot." */
    private static void snapshotOutsideTheState() {
        HaggleWash x = Check.streetOf(1);
        x.pass(7);
        x.keep();
        x.pass(1);
        x.undo();
        x.undo();
        Check.due("minute", x.count(0), 0);
        Check.due("undo leaves the snapshot", x.restore(), 7);
        HaggleWash y = Check.streetOf(1);
        y.keep();
        y.undo();
        Check.due("a snapshot of a house that was taken back", y.restore(), 0);
        Check.due("houses", y.count(2), 1);
        Check.due("states", y.count(13), 1);
        Check.due("undo", y.undo(), 0);
        Check.due("houses", y.count(2), 0);
    }

    private static void textOutsideTheState() {
        HaggleWash x = Check.streetOf(1);
        Check.write(x, "w1");
        x.keep();
        x.pass(1);
        x.type('2');
        x.undo();
        Check.due("undo leaves the text", x.count(14), 3);
        x.restore();
        Check.due("restore leaves the text", x.count(14), 3);
        x.readProgram(0);
        Check.due("the text as it is", x.phase(0, 0, 1), 12);
    }

    /** "Restores the state of the snapshot" is an act: it drops the oldest state of a full history. */
    private static void restoreIntoTheFullHistory() {
        HaggleWash x = new HaggleWash();
        x.keep();
        for (int i = 0; i < 4; i++) {
            x.pass(1);
        }
        Check.due("restore", x.restore(), 0);
        Check.due("states", x.count(13), 4);
        for (int left = 3; left >= 0; left--) {
            Check.due("undo", x.undo(), left);
            Check.due("minute", x.count(0), left + 1);
        }
        Check.due("undo", x.undo(), -5);
    }
}
