import java.util.Random;

/** No call throws or fails to end, for any arguments in any state, and beyond the 512th call too. */
public final class AnyArgumentsTest {
    private static final int[] ENDS = {Integer.MIN_VALUE, Integer.MIN_VALUE + 1, -101, -5, -1, 0, 1, 7, 8, 9, 10, 12, 13,
        20, 30, 60, 61, 240, 600, 9999, Integer.MAX_VALUE - 1, Integer.MAX_VALUE};

    public static void main(String[] args) {
        for (int seed = 0; seed < 60; seed++) {
            HaggleWash x = new HaggleWash();
            Random random = new Random(seed);
            for (int i = 0; i < 3000; i++) {
                anyCall(x, random);
            }
            Check.holds("it tells something", x.count(0) >= 0);
        }
        muchWater();
        Check.end();
    }

    private static int any(Random random) {
        switch (random.nextInt(6)) {
            case 0: return ENDS[random.nextInt(ENDS.length)];
            case 1: return random.nextInt();
            default: return random.nextInt(14);
        }
    }

    private static void anyCall(HaggleWash x, Random random) {
        int a = any(random);
        int b = any(random);
        int c = any(random);
        switch (random.nextInt(28)) {
            case 0: x.addHouse(a, b, c); break;
            case 1: x.set(a, b); break;
            case 2: x.power(random.nextInt(4) > 0); break;
            case 3: x.pass(a); break;
            case 4: x.type((char) random.nextInt()); break;
            case 5: x.clearText(); break;
            case 6: x.readProgram(a); break;
            case 7: x.start(a); break;
            case 8: x.stop(a); break;
            case 9: x.bail(a); break;
            case 10: x.openDoor(a); break;
            case 11: x.closeDoor(a); break;
            case 12: x.haggle(a, b, c, any(random), any(random)); break;
            case 13: x.undo(); break;
            case 14: x.keep(); break;
            case 15: x.restore(); break;
            case 16: x.house(a, b); break;
            case 17: x.washer(a, b); break;
            case 18: x.phase(a, b, c); break;
            case 19: x.boiler(a); break;
            case 20: x.heatNext(a); break;
            case 21: x.lease(a, b); break;
            case 22: x.ask(a, b); break;
            case 23: x.overIn(a); break;
            case 24: x.freeIn(a); break;
            case 25: x.count(a); break;
            default: writeAny(x, random, a); break;
        }
    }

    private static void writeAny(HaggleWash x, Random random, int house) {
        StringBuilder text = new StringBuilder();
        int phases = 1 + random.nextInt(12);
        for (int i = 0; i < phases; i++) {
            char kind = "ffhhwds".charAt(random.nextInt(7));
            text.append(i > 0 ? ";" : "").append(kind);
            if (kind != 'd') {
                text.append(10 + random.nextInt(40));
            }
        }
        Check.write(x, text.toString());
        x.readProgram(house);
        x.start(house);
    }

    /** As much water as 512 calls can let in, and its warmth. */
    private static void muchWater() {
        HaggleWash x = Check.streetOf(1);
        Check.program(x, 0, "f60;f60;f60;f60;f60;f60;f60;f60;f60;f60;f60;f60");
        int litres = 0;
        for (int i = 0; i < 160; i++) {
            Check.due("start", x.start(0), 12);
            x.pass(60);
            x.pass(60);
            litres += 720;
        }
        Check.due("water", x.washer(0, 2), litres);
        Check.due("warmth", x.washer(0, 4), 60 * litres);
        Check.due("temperature", x.washer(0, 3), 15);
        Check.run(x, 0, "h95;d");
        Check.due("wants", x.boiler(6), 250);
        Check.passLong(x, 240);
        Check.due("temperature", x.washer(0, 3), 15);
        x.stop(0);
        Check.run(x, 0, "d");
        int warmth = x.washer(0, 4);
        x.pass(1);
        Check.due("drains", x.washer(0, 4), (long) warmth * (litres - 12) / litres);
    }
}
