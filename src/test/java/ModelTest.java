import java.util.Random;

/** Long runs of calls, the same ones in every test run, answered by the program and by the model. */
public final class ModelTest {
    private static final int RUNS = 600;
    // what the document promises of an object, less those of the longest act
    private static final int CALLS = 512 - 70;
    private static final String[] TEXTS = {
        "f10;h60;w2;d;s3", "f60;h95;w9", "f3;h16;d;s1", "f60;f60;h40;d;s30", "h30", "f5;s2", "d;s30;d", "w99",
        "f6;h50;w1;f6;h90;w40", "f60;f60;f60;f60;f60;h95;d", "f1;h95;w60;d", "f1;h16;f1;h16;f1;h16;f1;h16;d;d;d;d",
        "d;d;d;d;d;d;d;d;d;d;d;d;d", "f61", "h15", "h96;d;d;d;d;d;d;d;d;d;d;d;d", "s31", "f0", "d5", "f100", "",
        "f10;", ";", "w9;x", "F1", "f10;h60;w2;d;s3;f10;h60;w2;d;s3;f10;h60;w2;d;s3;f10;h60;w2;d;"
    };

    private final Random random;
    private final HaggleWash x = new HaggleWash();
    private final Model m = new Model();
    private final int run;
    private final int style;
    private int calls = 0;

    private ModelTest(int run) {
        this.run = run;
        random = new Random(1000 + run);
        style = run % 4;
    }

    public static void main(String[] args) {
        for (int run = 0; run < RUNS; run++) {
            new ModelTest(run).go();
        }
        Check.end();
    }

    private void go() {
        int houses = 1 + random.nextInt(8);
        for (int i = 0; i < houses; i++) {
            addHouse();
        }
        while (calls < CALLS) {
            act();
        }
    }

    private void due(String call, int got, int want) {
        calls++;
        Check.due("run " + run + ", call " + calls + ": " + call, got, want);
    }

    private int n(int least, int most) {
        return least + random.nextInt(most - least + 1);
    }

    /** Mostly a number in its range, now and then one at or beyond its ends. */
    private int near(int least, int most) {
        switch (random.nextInt(20)) {
            case 0: return least - 1;
            case 1: return most + 1;
            case 2: return least;
            case 3: return most;
            default: return n(least, most);
        }
    }

    private int house() {
        return random.nextInt(30) == 0 ? n(-1, 8) : random.nextInt(Math.max(1, m.count(2)));
    }

    private void addHouse() {
        int shares = style == 1 ? n(1, 3) : near(1, 20);
        int price = near(1, 50);
        int coins = near(0, 9999);
        due("addHouse", x.addHouse(shares, price, coins), m.addHouse(shares, price, coins));
    }

    private void act() {
        switch (random.nextInt(23)) {
            case 0: case 1: case 2:
                pass();
                break;
            case 3: case 4: case 5:
                readProgram();
                break;
            case 6: case 7: case 8: case 9: {
                int house = house();
                due("start", x.start(house), m.start(house));
                break;
            }
            case 10: case 11: case 12:
                haggle();
                break;
            case 13:
                doors();
                break;
            case 14:
                history();
                break;
            case 15:
                set();
                break;
            case 16: {
                boolean on = style > 1 || n(0, 3) > 0;
                due("power", x.power(on), m.power(on));
                break;
            }
            case 17:
                forecast();
                break;
            default:
                tell();
                break;
        }
    }

    private void pass() {
        int minutes = n(0, 3) == 0 ? near(1, 60) : n(1, 4);
        due("pass " + minutes, x.pass(minutes), m.pass(minutes));
    }

    private void readProgram() {
        if (n(0, 2) > 0) {
            due("clearText", x.clearText(), m.clearText());
            String text = TEXTS[n(0, n(0, 2) == 0 ? TEXTS.length - 1 : 11)];
            for (char c : text.toCharArray()) {
                due("type", x.type(c), m.type(c));
            }
            if (n(0, 5) == 0) {
                char c = "fhwds;0123456789 F".charAt(n(0, 17));
                due("type " + c, x.type(c), m.type(c));
            }
        }
        int house = house();
        due("readProgram", x.readProgram(house), m.readProgram(house));
    }

    private void haggle() {
        int house = house();
        int other = house();
        int shares = n(0, 9) == 0 ? near(1, 20) : n(1, 4);
        int fair = Math.max(1, m.ask(other, shares));
        int bid = n(0, 9) == 0 ? near(1, 9999) : Math.max(1, n(fair / 3, fair + 2));
        int minutes = near(1, n(0, 2) == 0 ? 240 : 9);
        if (style == 1 && n(0, 1) == 0) {
            shares = Math.max(1, m.house(other, 0));
            bid = Math.max(1, m.ask(other, shares));
        }
        due("ask", x.ask(other, shares), m.ask(other, shares));
        due("haggle " + house + " " + other + " " + shares + " " + bid + " " + minutes,
                x.haggle(house, other, shares, bid, minutes), m.haggle(house, other, shares, bid, minutes));
    }

    private void doors() {
        int house = house();
        switch (n(0, 3)) {
            case 0:
                due("openDoor", x.openDoor(house), m.openDoor(house));
                break;
            case 1:
                due("closeDoor", x.closeDoor(house), m.closeDoor(house));
                break;
            case 2:
                due("stop", x.stop(house), m.stop(house));
                break;
            default:
                due("bail", x.bail(house), m.bail(house));
                break;
        }
    }

    private void history() {
        switch (n(0, 4)) {
            case 0:
                due("keep", x.keep(), m.keep());
                break;
            case 1:
                due("restore", x.restore(), m.restore());
                break;
            default:
                due("undo", x.undo(), m.undo());
                break;
        }
    }

    private void set() {
        int what = near(0, 3);
        int value = what == 0 ? near(1000, 60000) : what == 1 ? near(0, 900) : what == 2 ? near(10, 2000)
                : near(20, 60);
        if (style == 3 && what == 2) {
            value = n(10, 40);
        }
        due("set " + what + " " + value, x.set(what, value), m.set(what, value));
    }

    private void forecast() {
        int house = house();
        due("overIn", x.overIn(house), m.overIn(house));
        due("freeIn", x.freeIn(house), m.freeIn(house));
    }

    private void tell() {
        int house = house();
        int what = near(0, 9);
        due("house " + what, x.house(house, what), m.house(house, what));
        what = near(0, 8);
        due("washer " + what, x.washer(house, what), m.washer(house, what));
        int phase = near(0, 5);
        what = near(0, 1);
        due("phase", x.phase(house, phase, what), m.phase(house, phase, what));
        what = near(0, 7);
        due("boiler " + what, x.boiler(what), m.boiler(what));
        due("heatNext", x.heatNext(house), m.heatNext(house));
        what = near(0, 4);
        int lease = near(0, 9);
        due("lease", x.lease(lease, what), m.lease(lease, what));
        what = near(0, 14);
        due("count " + what, x.count(what), m.count(what));
    }
}
