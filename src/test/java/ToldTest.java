/** Promises 18 to 22 and 25 to 27. */
public final class ToldTest {
    public static void main(String[] args) {
        house();
        washer();
        phase();
        boiler();
        heatNext();
        overIn();
        overInWithinItsBound();
        freeIn();
        freeInWithinItsBound();
        count();
        Check.end();
    }

    private static final int[] NUMBERS = {Integer.MIN_VALUE, -100, -1, 20, 1000, Integer.MAX_VALUE};

    private static void house() {
        HaggleWash x = Check.streetOf(3, 2);
        for (int n : NUMBERS) {
            Check.due("house " + n, x.house(n, 0), -1);
            Check.due("what " + n, x.house(0, n), -2);
        }
        Check.due("house 2", x.house(2, 10), -1);
        Check.due("what 10", x.house(1, 10), -2);
        Check.run(x, 0, "f1;h20;d");
        x.pass(3);
        int[] due = {3, 3, 5, 1000, 20, 1, 0, 0, 0, 0};
        for (int what = 0; what < due.length; what++) {
            Check.due("house(0, " + what + ")", x.house(0, what), due[what]);
        }
        x.start(0);
        x.pass(3);
        Check.due("heat so far", x.house(0, 4), 40);
        Check.due("programs so far", x.house(0, 5), 2);
        Check.due("heat of the other", x.house(1, 4), 0);
    }

    private static void washer() {
        HaggleWash x = Check.streetOf(3, 2);
        for (int n : NUMBERS) {
            Check.due("house " + n, x.washer(n, 0), -1);
            Check.due("what " + n, x.washer(0, n), -2);
        }
        Check.due("house 2", x.washer(2, 9), -1);
        Check.due("what 9", x.washer(1, 9), -2);
        Check.run(x, 1, "f7;h60;d");
        x.pass(4);
        // 420 + 250 - (23 - 15) * 7 / 30 (1) + 250 - (32 - 15) * 7 / 30 (3)
        int[] due = {1, 1, 7, 32, 916, 2, 2, 3, 7};
        for (int what = 0; what < due.length; what++) {
            Check.due("washer(1, " + what + ")", x.washer(1, what), due[what]);
        }
    }

    private static void phase() {
        HaggleWash x = Check.streetOf(3, 2);
        Check.due("no program", x.phase(0, 0, 0), -1);
        Check.program(x, 1, "f7;d");
        for (int n : NUMBERS) {
            Check.due("house " + n, x.phase(n, 0, 0), -1);
            Check.due("phase " + n, x.phase(1, n, 0), -1);
            Check.due("what " + n, x.phase(1, 0, n), -2);
        }
        Check.due("house 2", x.phase(2, 0, 0), -1);
        Check.due("phase 2", x.phase(1, 2, 0), -1);
        Check.due("phase before what", x.phase(1, 2, 2), -1);
        Check.due("what 2", x.phase(1, 1, 2), -2);
        Check.due("kind", x.phase(1, 0, 0), 'f');
        Check.due("number", x.phase(1, 0, 1), 7);
        Check.due("kind", x.phase(1, 1, 0), 'd');
        Check.due("number", x.phase(1, 1, 1), 0);
    }

    private static void boiler() {
        HaggleWash x = Check.streetOf(3, 2);
        for (int n : NUMBERS) {
            Check.due("what " + n, x.boiler(n), -2);
        }
        Check.due("what 8", x.boiler(8), -2);
        x.set(0, 11000);
        x.set(1, 600);
        x.set(2, 700);
        x.set(3, 50);
        Check.run(x, 0, "f60;h95");
        Check.run(x, 1, "f60;h95");
        x.pass(10);
        Check.due("wanted", x.boiler(6), 500);
        x.pass(1);
        int[] due = {10500, 11000, 600, 700, 1000, 500, 500, 50};
        for (int what = 0; what < due.length; what++) {
            Check.due("boiler(" + what + ")", x.boiler(what), due[what]);
        }
        x.stop(1);
        Check.due("wanted by those that run", x.boiler(6), 250);
    }

    private static void heatNext() {
        HaggleWash x = Check.streetOf(3, 1);
        for (int n : NUMBERS) {
            Check.due("house " + n, x.heatNext(n), -1);
        }
        Check.due("house 2", x.heatNext(2), -1);
        Check.due("rests", x.heatNext(0), 0);
        Check.run(x, 0, "f60;h95");
        Check.run(x, 1, "f60;h95");
        x.pass(9);
        Check.due("fills still", x.heatNext(0), 0);
        x.pass(1);
        int first = x.heatNext(0);
        int second = x.heatNext(1);
        Check.due("together", first + second, 300);
        Check.due("it comes so", x.pass(1), 300);
        Check.due("it came so", x.house(0, 4), first);
        Check.due("it came so", x.house(1, 4), second);
        x.power(false);
        Check.due("no power", x.heatNext(0), 0);
        Check.due("no house, no power", x.heatNext(2), -1);
    }

    private static void overIn() {
        HaggleWash x = Check.streetOf(3, 1);
        for (int n : NUMBERS) {
            Check.due("house " + n, x.overIn(n), -1);
        }
        Check.due("house 2", x.overIn(2), -1);
        Check.due("rests", x.overIn(0), -4);
        Check.run(x, 0, "f10;h60;w2;d;s3");
        int minutes = x.overIn(0);
        x.pass(minutes - 1);
        Check.due("the last minute", x.overIn(0), 1);
        x.power(false);
        Check.due("no power", x.overIn(0), -5);
        x.power(true);
        Check.due("spins anew", x.overIn(0), 3);
        x.pass(3);
        Check.due("is over", x.house(0, 5), 1);
        Check.due("rests", x.overIn(0), -4);
        Check.run(x, 1, "w9;h20");
        Check.due("will be stuck", x.overIn(1), -5);
        x.pass(10);
        Check.due("is stuck", x.overIn(1), -4);
    }

    private static void overInWithinItsBound() {
        HaggleWash x = Check.streetOf(3);
        Check.run(x, 0, "w99;w99;w99;w99;w99;w99;w6");
        Check.due("600 minutes", x.overIn(0), 600);
        x.stop(0);
        Check.run(x, 0, "w99;w99;w99;w99;w99;w99;w7");
        Check.due("601 minutes", x.overIn(0), -5);
        x.pass(1);
        Check.due("600 minutes", x.overIn(0), 600);
        Check.passLong(x, 599);
        Check.due("runs still", x.washer(0, 0), 1);
        x.pass(1);
        Check.due("is over", x.washer(0, 0), 0);
    }

    private static void freeIn() {
        HaggleWash x = Check.streetOf(3, 1);
        for (int n : NUMBERS) {
            Check.due("house " + n, x.freeIn(n), -1);
        }
        Check.due("house 2", x.freeIn(2), -1);
        Check.due("closed", x.freeIn(0), 0);
        x.openDoor(0);
        Check.due("open", x.freeIn(0), 0);
        x.closeDoor(0);
        Check.run(x, 0, "f60;h60;w1");
        int over = x.overIn(0);
        int free = x.freeIn(0);
        Check.holds("later than it is over", free > over);
        Check.passLong(x, free - 1);
        Check.due("is over", x.washer(0, 0), 0);
        Check.due("is locked", x.washer(0, 5), 2);
        Check.due("the last minute", x.freeIn(0), 1);
        x.power(false);
        Check.due("no power", x.freeIn(0), -5);
        x.power(true);
        x.pass(1);
        Check.due("is free", x.washer(0, 5), 1);
        Check.due("is free", x.freeIn(0), 0);
        Check.run(x, 1, "w9;h20");
        Check.due("when it is stuck", x.freeIn(1), 10);
    }

    private static void freeInWithinItsBound() {
        HaggleWash x = Check.streetOf(3);
        Check.run(x, 0, "w99;w99;w99;w99;w99;w99;w6");
        Check.due("600 minutes", x.freeIn(0), 600);
        x.stop(0);
        Check.run(x, 0, "w99;w99;w99;w99;w99;w99;w7");
        Check.due("601 minutes", x.freeIn(0), -5);
        x.stop(0);
        // a litre above 40 degrees loses less than a unit, so it stays hot
        Check.run(x, 0, "f1;h44;w1");
        x.pass(3);
        Check.due("rests", x.washer(0, 0), 0);
        Check.due("temperature", x.washer(0, 3), 44);
        Check.due("for ever", x.freeIn(0), -5);
        x.set(3, 44);
        Check.due("not above the safe heat", x.freeIn(0), 1);
    }

    private static void count() {
        HaggleWash x = Check.streetOf(3, 1, 2, 4);
        for (int n : NUMBERS) {
            Check.due("what " + n, x.count(n), -2);
        }
        Check.due("what 15", x.count(15), -2);
        Check.run(x, 0, "w2");
        Check.run(x, 1, "w1;h20");
        Check.run(x, 2, "w99");
        x.openDoor(3);
        x.haggle(1, 0, 1, 90, 9);
        x.haggle(1, 0, 1, 90, 9);
        x.haggle(1, 3, 1, 1, 9);
        x.pass(2);
        x.power(false);
        x.pass(3);
        int[] due = {5, 0, 4, 1, 1, 1, 1, 2, 2, 1, 3, 1, 10, 4, 3};
        for (int what = 0; what < due.length; what++) {
            Check.due("count(" + what + ")", x.count(what), due[what]);
        }
    }
}
