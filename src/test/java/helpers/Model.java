import java.util.ArrayDeque;
import java.util.ArrayList;
import java.util.Arrays;
import java.util.Deque;
import java.util.List;
import java.util.regex.Matcher;
import java.util.regex.Pattern;

/**
 * The document once more, written in another way than the program and as literally as can be: states
 * are copied whole, texts are matched by patterns, heat is split unit by unit as the rounds say.
 */
final class Model {
    static final int UNKNOWN = -1, BAD = -2, FULL = -3, NOT = -4, NONE = -5;

    static final class Wash {
        int own, price, coins, heat, ended, deals, noDeals, paid, received;
        String[] phases = {};
        String state = "rests", door = "closed";
        int phase, gone, come, water, warmth, litres;

        Wash copy() {
            Wash c = new Wash();
            c.own = own; c.price = price; c.coins = coins; c.heat = heat; c.ended = ended; c.deals = deals;
            c.noDeals = noDeals; c.paid = paid; c.received = received; c.phases = phases.clone();
            c.state = state; c.door = door; c.phase = phase; c.gone = gone; c.come = come; c.water = water;
            c.warmth = warmth; c.litres = litres;
            return c;
        }

        boolean runs() { return state.equals("runs"); }
        boolean rests() { return state.equals("rests"); }
        boolean locked() { return door.equals("locked"); }
        char kind() { return phases[phase].charAt(0); }
        int number() { return numberIn(phases[phase]); }
        int temperature() { return water == 0 ? 15 : Math.floorDiv(warmth, 4 * water); }

        int wants() {
            if (!runs() || kind() != 'h' || water == 0) return 0;
            return Math.min(250, Math.max(0, 4 * water * number() - warmth));
        }

        void minute(int heatGot) {
            boolean over = false;
            if (kind() == 'f') {
                int in = Math.min(6, number() - come);
                come += in; water += in; litres += in; warmth += 60 * in;
                over = come == number();
            } else if (kind() == 'h') {
                if (water == 0) { state = "stuck"; return; }
                warmth += heatGot;
                over = !(temperature() < number());
            } else if (kind() == 'w') {
                over = gone + 1 == number();
            } else if (kind() == 'd') {
                int there = water;
                water -= Math.min(12, water);
                if (there > 0) warmth = (int) ((long) warmth * water / there);
                over = water == 0;
            } else {
                if (water > 0) { state = "stuck"; return; }
                over = gone + 1 == number();
            }
            gone++;
            if (over) {
                phase++; gone = 0; come = 0;
                if (phase == phases.length) { state = "rests"; ended++; }
            }
        }
    }

    static int numberIn(String phase) {
        return phase.length() == 1 ? 0 : Integer.parseInt(phase.substring(1));
    }

    static final class State {
        int minute, dark, capacity = 20000, input = 200, outflow = 300, safe = 40, store = 10000, in, out;
        boolean power = true;
        List<Wash> houses = new ArrayList<>();
        List<int[]> leases = new ArrayList<>(); // lender, borrower, shares, minutes, coins

        State copy() {
            State c = new State();
            c.minute = minute; c.dark = dark; c.capacity = capacity; c.input = input; c.outflow = outflow;
            c.safe = safe; c.store = store; c.in = in; c.out = out; c.power = power;
            for (Wash w : houses) c.houses.add(w.copy());
            for (int[] l : leases) c.leases.add(l.clone());
            return c;
        }

        int lent(int house) { return leases.stream().filter(l -> l[0] == house).mapToInt(l -> l[2]).sum(); }
        int borrowed(int house) { return leases.stream().filter(l -> l[1] == house).mapToInt(l -> l[2]).sum(); }
        int shares(int house) { return houses.get(house).own - lent(house) + borrowed(house); }
        int free(int house) { return houses.get(house).own - lent(house); }

        int ask(int house, int shares) {
            Wash w = houses.get(house);
            return shares * w.price * (w.runs() ? 2 : 1);
        }

        int[] split(int heat) {
            int n = houses.size();
            int[] got = new int[n];
            while (heat > 0) {
                List<Integer> wanting = new ArrayList<>();
                int all = 0;
                for (int i = 0; i < n; i++) {
                    if (houses.get(i).wants() > got[i]) { wanting.add(i); all += shares(i); }
                }
                if (wanting.isEmpty()) break;
                int begin = heat;
                for (int i : wanting) {
                    int part = all == 0 ? 0 : begin * shares(i) / all;
                    part = Math.min(part, houses.get(i).wants() - got[i]);
                    got[i] += part;
                    heat -= part;
                }
                if (heat == begin) { got[wanting.get(0)]++; heat--; }
            }
            return got;
        }

        int minute() {
            int all = 0;
            if (power) {
                int before = store;
                store = Math.min(capacity, store + input);
                in += store - before;
                int[] got = split(Math.min(outflow, store));
                for (int i = 0; i < got.length; i++) { houses.get(i).heat += got[i]; all += got[i]; }
                store -= all;
                out += all;
                for (int i = 0; i < got.length; i++) if (houses.get(i).runs()) houses.get(i).minute(got[i]);
            }
            for (Wash w : houses) {
                if (w.water > 0 && w.temperature() > 15) w.warmth -= (w.temperature() - 15) * w.water / 30;
            }
            if (power) {
                for (Wash w : houses) {
                    if (w.locked() && !w.runs() && w.temperature() <= safe) w.door = "closed";
                }
            }
            for (int[] l : leases) l[3]--;
            leases.removeIf(l -> l[3] == 0);
            if (!power) dark++;
            minute++;
            return all;
        }
    }

    State now = new State();
    State snapshot = null;
    Deque<State> history = new ArrayDeque<>();
    String text = "";

    private void act() {
        history.addLast(now.copy());
        if (history.size() > 4) history.removeFirst();
    }

    private boolean no(int house) { return house < 0 || house >= now.houses.size(); }
    private static boolean out(int value, int least, int most) { return value < least || value > most; }

    int addHouse(int shares, int price, int coins) {
        if (out(shares, 1, 20) || out(price, 1, 50) || out(coins, 0, 9999)) return BAD;
        if (now.houses.size() == 8) return FULL;
        act();
        Wash w = new Wash();
        w.own = shares; w.price = price; w.coins = coins;
        now.houses.add(w);
        return now.houses.size() - 1;
    }

    int set(int what, int value) {
        int previous;
        if (what == 0) {
            if (out(value, 1000, 60000)) return BAD;
            if (now.store > value) return NOT;
            previous = now.capacity;
        } else if (what == 1) {
            if (out(value, 0, 900)) return BAD;
            previous = now.input;
        } else if (what == 2) {
            if (out(value, 10, 2000)) return BAD;
            previous = now.outflow;
        } else if (what == 3) {
            if (out(value, 20, 60)) return BAD;
            if (now.houses.stream().anyMatch(w -> !w.locked() && w.temperature() > value)) return NOT;
            previous = now.safe;
        } else {
            return BAD;
        }
        if (previous == value) return NONE;
        act();
        if (what == 0) now.capacity = value;
        if (what == 1) now.input = value;
        if (what == 2) now.outflow = value;
        if (what == 3) now.safe = value;
        return previous;
    }

    int power(boolean on) {
        if (now.power == on) return NONE;
        act();
        now.power = on;
        if (on) for (Wash w : now.houses) if (w.runs() && w.kind() == 's') w.gone = 0;
        return (int) now.houses.stream().filter(Wash::runs).count();
    }

    int pass(int minutes) {
        if (out(minutes, 1, 60)) return BAD;
        act();
        int all = 0;
        for (int i = 0; i < minutes; i++) all += now.minute();
        return all;
    }

    int type(char c) {
        if (text.length() == 60) return FULL;
        text += c;
        return text.length();
    }

    int clearText() {
        int l = text.length();
        text = "";
        return l;
    }

    private static final Pattern PHASE = Pattern.compile("d|[fhws][1-9][0-9]?");

    /** The length of the longest beginning that some text without a fault begins with, or -1 if it is good. */
    private int fault() {
        int at = 0;
        while (true) {
            Matcher m = PHASE.matcher(text).region(at, text.length());
            if (!m.lookingAt()) {
                boolean letter = at < text.length() && "fhws".indexOf(text.charAt(at)) >= 0;
                return letter ? at + 1 : at;
            }
            at = m.end();
            if (at == text.length()) return -1;
            if (text.charAt(at) != ';') return at;
            at++;
        }
    }

    int readProgram(int house) {
        if (no(house)) return UNKNOWN;
        if (fault() >= 0) return -100 - fault();
        String[] phases = text.split(";");
        for (String p : phases) {
            int n = numberIn(p);
            char k = p.charAt(0);
            if (k == 'f' && n > 60 || k == 'h' && out(n, 16, 95) || k == 's' && n > 30) return BAD;
        }
        if (phases.length > 12) return FULL;
        if (now.houses.get(house).runs()) return NOT;
        act();
        now.houses.get(house).phases = phases;
        return phases.length;
    }

    int start(int house) {
        if (no(house)) return UNKNOWN;
        Wash w = now.houses.get(house);
        if (!now.power || w.phases.length == 0 || !w.rests() || w.door.equals("open")) return NOT;
        act();
        w = now.houses.get(house);
        w.state = "runs"; w.phase = 0; w.gone = 0; w.come = 0; w.door = "locked";
        return w.phases.length;
    }

    int stop(int house) {
        if (no(house)) return UNKNOWN;
        Wash w = now.houses.get(house);
        if (w.rests()) return NONE;
        act();
        w.state = "rests";
        return w.phase;
    }

    int bail(int house) {
        if (no(house)) return UNKNOWN;
        Wash w = now.houses.get(house);
        if (w.runs()) return NOT;
        if (w.water == 0) return NONE;
        act();
        int litres = w.water;
        w.water = 0; w.warmth = 0;
        return litres;
    }

    int openDoor(int house) {
        if (no(house)) return UNKNOWN;
        Wash w = now.houses.get(house);
        if (w.locked()) return NOT;
        if (w.door.equals("open")) return NONE;
        act();
        w.door = "open";
        return w.temperature();
    }

    int closeDoor(int house) {
        if (no(house)) return UNKNOWN;
        Wash w = now.houses.get(house);
        if (!w.door.equals("open")) return NONE;
        act();
        w.door = "closed";
        return 1;
    }

    int haggle(int house, int other, int shares, int bid, int minutes) {
        if (no(house) || no(other)) return UNKNOWN;
        if (out(shares, 1, 20) || out(bid, 1, 9999) || out(minutes, 1, 240) || house == other) return BAD;
        Wash me = now.houses.get(house);
        Wash you = now.houses.get(other);
        if (now.free(other) < shares || me.coins < bid) return NOT;
        if (now.leases.size() == 10) return FULL;
        act();
        int ask = now.ask(other, shares);
        if (bid >= ask) {
            int coins = (bid + ask) / 2;
            me.coins -= coins; me.paid += coins; me.deals++;
            you.coins += coins; you.received += coins;
            now.leases.add(new int[] {other, house, shares, minutes, coins});
            you.price = Math.min(50, you.price + 1);
            return coins;
        }
        me.noDeals++;
        you.price = 2 * bid >= ask ? Math.max(1, you.price - 1) : Math.min(50, you.price + 1);
        return 0;
    }

    int undo() {
        if (history.isEmpty()) return NONE;
        now = history.removeLast();
        return history.size();
    }

    int keep() {
        snapshot = now.copy();
        return now.minute;
    }

    int restore() {
        if (snapshot == null) return NONE;
        act();
        now = snapshot.copy();
        return now.minute;
    }

    private static int pick(int what, int... values) {
        return out(what, 0, values.length - 1) ? BAD : values[what];
    }

    int house(int house, int what) {
        if (no(house)) return UNKNOWN;
        Wash w = now.houses.get(house);
        return pick(what, now.shares(house), w.own, w.price, w.coins, w.heat, w.ended, w.deals, w.noDeals,
                w.paid, w.received);
    }

    int washer(int house, int what) {
        if (no(house)) return UNKNOWN;
        Wash w = now.houses.get(house);
        return pick(what, Arrays.asList("rests", "runs", "stuck").indexOf(w.state), w.rests() ? NONE : w.phase,
                w.water, w.temperature(), w.warmth, Arrays.asList("open", "closed", "locked").indexOf(w.door),
                w.rests() ? NONE : w.gone, w.phases.length, w.litres);
    }

    int phase(int house, int phase, int what) {
        if (no(house) || out(phase, 0, now.houses.get(house).phases.length - 1)) return UNKNOWN;
        String p = now.houses.get(house).phases[phase];
        return pick(what, p.charAt(0), numberIn(p));
    }

    int boiler(int what) {
        int wanted = now.houses.stream().mapToInt(Wash::wants).sum();
        return pick(what, now.store, now.capacity, now.input, now.outflow, now.in, now.out, wanted, now.safe);
    }

    int heatNext(int house) {
        if (no(house)) return UNKNOWN;
        State next = now.copy();
        next.minute();
        return next.houses.get(house).heat - now.houses.get(house).heat;
    }

    int lease(int lease, int what) {
        return out(lease, 0, now.leases.size() - 1) ? UNKNOWN : pick(what, now.leases.get(lease));
    }

    int ask(int house, int shares) {
        if (no(house)) return UNKNOWN;
        if (out(shares, 1, 20)) return BAD;
        return now.free(house) < shares ? NOT : now.ask(house, shares);
    }

    int overIn(int house) {
        if (no(house)) return UNKNOWN;
        if (!now.houses.get(house).runs()) return NOT;
        State later = now.copy();
        for (int i = 1; i <= 600; i++) {
            later.minute();
            if (later.houses.get(house).rests()) return i;
        }
        return NONE;
    }

    int freeIn(int house) {
        if (no(house)) return UNKNOWN;
        State later = now.copy();
        for (int i = 0; i <= 600; i++) {
            if (!later.houses.get(house).locked()) return i;
            later.minute();
        }
        return NONE;
    }

    int count(int what) {
        List<Wash> h = now.houses;
        return pick(what, now.minute, now.power ? 1 : 0, h.size(), (int) h.stream().filter(Wash::runs).count(),
                (int) h.stream().filter(w -> w.state.equals("stuck")).count(),
                (int) h.stream().filter(Wash::locked).count(),
                (int) h.stream().filter(w -> w.door.equals("open")).count(), now.leases.size(),
                h.stream().mapToInt(w -> w.deals).sum(), h.stream().mapToInt(w -> w.noDeals).sum(), now.dark,
                h.stream().mapToInt(w -> w.ended).sum(), h.stream().mapToInt(w -> w.own).sum(), history.size(),
                text.length());
    }
}
