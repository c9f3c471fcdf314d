import java.util.function.Consumer;
import java.util.function.IntUnaryOperator;
import java.util.function.Supplier;
import java.util.function.ToIntFunction;

/** The edges of what a call takes: the values on both sides, and that a refused call changes nothing. */
final class Bounds {
    private static final int MOST_STATES = 4;

    private Bounds() {
    }

    /** A call of which one argument is looked at. */
    interface Call {
        int with(HaggleWash x, int value);
    }

    /**
     * Four houses: 0 heats, 1 is stuck with water, 2 has lent to 0 and its door is open, 3 rests with hot
     * water and its door is locked. The history is full, there is a snapshot, and the text is a program.
     */
    static HaggleWash busy() {
        HaggleWash x = Check.streetOf(3, 4, 5, 6);
        Check.run(x, 0, "f60;h50;w9");
        Check.run(x, 1, "f6;s1");
        Check.run(x, 3, "f1;h60;w99");
        x.pass(12);
        x.keep();
        x.haggle(0, 2, 2, 50, 30);
        x.openDoor(2);
        x.stop(3);
        x.pass(1);
        Check.write(x, "w7;d");
        return x;
    }

    /** Sees that a call answers so, and that street, history, snapshot and text are as without it. */
    static void refused(String call, Supplier<HaggleWash> street, ToIntFunction<HaggleWash> refusal, int due) {
        Check.due(call, refusal.applyAsInt(street.get()), due);
        for (int acts = 0; acts <= MOST_STATES; acts++) {
            int back = acts;
            unchanged(call + ", " + acts + " acts back", street, refusal, x -> undo(x, back));
        }
        unchanged(call + ", the snapshot", street, refusal, HaggleWash::restore);
        unchanged(call + ", the text", street, refusal, Bounds::readText);
    }

    static void refused(String call, ToIntFunction<HaggleWash> refusal, int due) {
        refused(call, Bounds::busy, refusal, due);
    }

    /** Each look is at a new street, so that none is used for more calls than the document allows. */
    private static void unchanged(String what, Supplier<HaggleWash> street, ToIntFunction<HaggleWash> refusal,
            Consumer<HaggleWash> way) {
        HaggleWash with = street.get();
        refusal.applyAsInt(with);
        way.accept(with);
        HaggleWash without = street.get();
        way.accept(without);
        Check.holds(what + " is as it was", seen(with).equals(seen(without)));
    }

    private static void undo(HaggleWash x, int acts) {
        for (int i = 0; i < acts; i++) {
            x.undo();
        }
    }

    private static void readText(HaggleWash x) {
        x.stop(0);
        x.readProgram(0);
    }

    private static String seen(HaggleWash x) {
        return Check.told(x) + x.count(13) + ' ' + x.count(14);
    }

    /** Sees that a call takes what is in the range, with the answers that are due, and refuses the rest. */
    static void range(String call, Supplier<HaggleWash> street, Call asked, int least, int most, int error,
            IntUnaryOperator due) {
        for (int bad : new int[] {Integer.MIN_VALUE, least - 1, most + 1, Integer.MAX_VALUE}) {
            refused(call + " of " + bad, street, x -> asked.with(x, bad), error);
        }
        for (int good : new int[] {least, Math.min(least + 1, most), Math.max(least, most - 1), most}) {
            Check.due(call + " of " + good, asked.with(street.get(), good), due.applyAsInt(good));
        }
    }

    /** Sees that a question answers another thing than the error in its range, and the error beyond it. */
    static void known(String call, Supplier<HaggleWash> street, Call asked, int least, int most, int error) {
        for (int bad : new int[] {Integer.MIN_VALUE, least - 1, most + 1, Integer.MAX_VALUE}) {
            refused(call + " of " + bad, street, x -> asked.with(x, bad), error);
        }
        for (int good = least; good <= most; good++) {
            Check.holds(call + " of " + good + " is known", asked.with(street.get(), good) != error);
        }
    }
}
