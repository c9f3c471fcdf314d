/**
 * A street whose washers share one boiler.
 *
 * What each method promises is told in ../shared/DOC.md. Everything that an undo brings back stands
 * in a Street; this class checks the arguments, records the history and answers.
 */
public final class HaggleWash {
    public static final int UNKNOWN = -1;
    public static final int BAD_VALUE = -2;
    public static final int FULL = -3;
    public static final int NOT_POSSIBLE = -4;
    public static final int NONE = -5;

    private static final int FAULT_BASE = -100;

    private static final int MOST_HOUSES = 8;
    private static final int MOST_LEASES = 10;
    private static final int MOST_STATES = 4;
    private static final int MOST_PHASES = 12;
    private static final int MOST_CHARACTERS = 60;
    private static final int MOST_SHARES = 20;
    private static final int MOST_PRICE = 50;
    private static final int MOST_COINS = 9999;
    private static final int MOST_LEASE_MINUTES = 240;
    private static final int MOST_PASS_MINUTES = 60;
    private static final int MOST_OUTFLOW = 2000;
    private static final int FORECAST_MINUTES = 600;

    private static final int CAPACITY = 0;
    private static final int INPUT = 1;
    private static final int OUTFLOW = 2;
    private static final int SAFE_HEAT = 3;
    private static final int SETTINGS = 4;
    private static final int[] LEAST_SETTING = {1000, 0, 10, 20};
    private static final int[] MOST_SETTING = {60000, 900, MOST_OUTFLOW, 60};

    private static final int RESTS = 0;
    private static final int RUNS = 1;
    private static final int STUCK = 2;

    private static final int OPEN = 0;
    private static final int CLOSED = 1;
    private static final int LOCKED = 2;

    private static final char FILL = 'f';
    private static final char HEAT = 'h';
    private static final char WASH = 'w';
    private static final char DRAIN = 'd';
    private static final char SPIN = 's';
    private static final char SEPARATOR = ';';

    private static final int COLD = 15;
    private static final int WARMTH_OF_DEGREE = 4;
    private static final int LITRES_IN = 6;
    private static final int LITRES_OUT = 12;
    private static final int MOST_HEAT = 250;
    private static final int LOSS_DIVISOR = 30;

    private final Street street = new Street();
    private final Street trial = new Street();
    private final Street snapshot = new Street();
    private final History history = new History();
    private final HeatSplit split = new HeatSplit();
    private final ProgramText text = new ProgramText();
    private boolean hasSnapshot = false;

    public HaggleWash() {
    }

    // ---- street and boiler

    public int addHouse(int shares, int price, int coins) {
        if (!isWithin(shares, 1, MOST_SHARES) || !isWithin(price, 1, MOST_PRICE)
                || !isWithin(coins, 0, MOST_COINS)) {
            return BAD_VALUE;
        }
        if (street.houseCount >= MOST_HOUSES) {
            return FULL;
        }
        history.record(street);
        return street.settle(shares, price, coins);
    }

    public int set(int what, int value) {
        if (!isWithin(what, 0, SETTINGS - 1)
                || !isWithin(value, LEAST_SETTING[what], MOST_SETTING[what])) {
            return BAD_VALUE;
        }
        if (what == CAPACITY && street.store > value
                || what == SAFE_HEAT && street.hasUnlockedAbove(value)) {
            return NOT_POSSIBLE;
        }
        int previous = street.settings[what];
        if (previous == value) {
            return NONE;
        }
        history.record(street);
        street.settings[what] = value;
        return previous;
    }

    public int power(boolean on) {
        if (street.powered == on) {
            return NONE;
        }
        history.record(street);
        street.switchPower(on);
        return street.washersIn(RUNS);
    }

    public int pass(int minutes) {
        if (!isWithin(minutes, 1, MOST_PASS_MINUTES)) {
            return BAD_VALUE;
        }
        history.record(street);
        int heat = 0;
        for (int i = 0; i < minutes; i++) {
            heat += street.passMinute(split);
        }
        return heat;
    }

    // ---- texts

    public int type(char character) {
        return text.append(character) ? text.length : FULL;
    }

    public int clearText() {
        int previous = text.length;
        text.length = 0;
        return previous;
    }

    public int readProgram(int house) {
        if (!street.hasHouse(house)) {
            return UNKNOWN;
        }
        int fault = text.firstFault();
        if (fault != NONE) {
            return FAULT_BASE - fault;
        }
        Program program = text.toProgram();
        if (!program.hasGoodNumbers()) {
            return BAD_VALUE;
        }
        if (program.length > MOST_PHASES) {
            return FULL;
        }
        if (street.washerOf(house).state == RUNS) {
            return NOT_POSSIBLE;
        }
        history.record(street);
        street.washerOf(house).program = program;
        return program.length;
    }

    // ---- washers and doors

    public int start(int house) {
        if (!street.hasHouse(house)) {
            return UNKNOWN;
        }
        Washer washer = street.washerOf(house);
        if (!street.powered || !washer.canStart()) {
            return NOT_POSSIBLE;
        }
        history.record(street);
        washer.begin();
        return washer.program.length;
    }

    public int stop(int house) {
        if (!street.hasHouse(house)) {
            return UNKNOWN;
        }
        Washer washer = street.washerOf(house);
        if (washer.state == RESTS) {
            return NONE;
        }
        history.record(street);
        washer.state = RESTS;
        return washer.phase;
    }

    public int bail(int house) {
        if (!street.hasHouse(house)) {
            return UNKNOWN;
        }
        Washer washer = street.washerOf(house);
        if (washer.state == RUNS) {
            return NOT_POSSIBLE;
        }
        if (washer.water == 0) {
            return NONE;
        }
        history.record(street);
        int litres = washer.water;
        washer.water = 0;
        washer.warmth = 0;
        return litres;
    }

    public int openDoor(int house) {
        if (!street.hasHouse(house)) {
            return UNKNOWN;
        }
        Washer washer = street.washerOf(house);
        if (washer.door == LOCKED) {
            return NOT_POSSIBLE;
        }
        if (washer.door == OPEN) {
            return NONE;
        }
        history.record(street);
        washer.door = OPEN;
        return washer.temperature();
    }

    public int closeDoor(int house) {
        if (!street.hasHouse(house)) {
            return UNKNOWN;
        }
        Washer washer = street.washerOf(house);
        if (washer.door != OPEN) {
            return NONE;
        }
        history.record(street);
        washer.door = CLOSED;
        return 1;
    }

    // ---- haggling

    public int haggle(int house, int other, int shares, int bid, int minutes) {
        if (!street.hasHouse(house) || !street.hasHouse(other)) {
            return UNKNOWN;
        }
        if (!isWithin(shares, 1, MOST_SHARES) || !isWithin(bid, 1, MOST_COINS)
                || !isWithin(minutes, 1, MOST_LEASE_MINUTES) || house == other) {
            return BAD_VALUE;
        }
        if (street.unlentOf(other) < shares || street.houses[house].coins < bid) {
            return NOT_POSSIBLE;
        }
        if (street.leaseCount >= MOST_LEASES) {
            return FULL;
        }
        history.record(street);
        int ask = street.askOf(other, shares);
        if (bid < ask) {
            street.refuse(house, other, 2 * bid >= ask);
            return 0;
        }
        int coins = (bid + ask) / 2;
        street.pay(house, other, coins);
        street.lend(house, other, shares, minutes, coins);
        return coins;
    }

    // ---- history

    public int undo() {
        return history.takeBack(street) ? history.size : NONE;
    }

    public int keep() {
        snapshot.copyFrom(street);
        hasSnapshot = true;
        return street.minute;
    }

    public int restore() {
        if (!hasSnapshot) {
            return NONE;
        }
        history.record(street);
        street.copyFrom(snapshot);
        return street.minute;
    }

    // ---- what is told

    public int house(int house, int what) {
        if (!street.hasHouse(house)) {
            return UNKNOWN;
        }
        return what == 0 ? street.sharesOf(house) : street.houses[house].tell(what);
    }

    public int washer(int house, int what) {
        return street.hasHouse(house) ? street.washerOf(house).tell(what) : UNKNOWN;
    }

    public int phase(int house, int phase, int what) {
        if (!street.hasHouse(house)) {
            return UNKNOWN;
        }
        Program program = street.washerOf(house).program;
        if (!program.hasPhase(phase)) {
            return UNKNOWN;
        }
        switch (what) {
            case 0: return program.kindOf(phase);
            case 1: return program.numberOf(phase);
            default: return BAD_VALUE;
        }
    }

    public int boiler(int what) {
        switch (what) {
            case 0: return street.store;
            case 1: return street.settings[CAPACITY];
            case 2: return street.settings[INPUT];
            case 3: return street.settings[OUTFLOW];
            case 4: return street.heatIn;
            case 5: return street.heatOut;
            case 6: return street.wantedHeat();
            case 7: return street.settings[SAFE_HEAT];
            default: return BAD_VALUE;
        }
    }

    public int heatNext(int house) {
        if (!street.hasHouse(house)) {
            return UNKNOWN;
        }
        if (!street.powered) {
            return 0;
        }
        street.divideHeat(split);
        return split.gets[house];
    }

    public int lease(int lease, int what) {
        return isWithin(lease, 0, street.leaseCount - 1) ? street.leases[lease].tell(what) : UNKNOWN;
    }

    public int ask(int house, int shares) {
        if (!street.hasHouse(house)) {
            return UNKNOWN;
        }
        if (!isWithin(shares, 1, MOST_SHARES)) {
            return BAD_VALUE;
        }
        return street.unlentOf(house) < shares ? NOT_POSSIBLE : street.askOf(house, shares);
    }

    public int overIn(int house) {
        if (!street.hasHouse(house)) {
            return UNKNOWN;
        }
        if (street.washerOf(house).state != RUNS) {
            return NOT_POSSIBLE;
        }
        trial.copyFrom(street);
        Washer washer = trial.washerOf(house);
        int minutes = 0;
        while (minutes < FORECAST_MINUTES && washer.state == RUNS) {
            trial.passMinute(split);
            minutes++;
        }
        return washer.state == RESTS ? minutes : NONE;
    }

    public int freeIn(int house) {
        if (!street.hasHouse(house)) {
            return UNKNOWN;
        }
        trial.copyFrom(street);
        Washer washer = trial.washerOf(house);
        int minutes = 0;
        while (minutes < FORECAST_MINUTES && washer.door == LOCKED) {
            trial.passMinute(split);
            minutes++;
        }
        return washer.door == LOCKED ? NONE : minutes;
    }

    public int count(int what) {
        switch (what) {
            case 13: return history.size;
            case 14: return text.length;
            default: return street.tell(what);
        }
    }

    private static boolean isWithin(int value, int least, int most) {
        return least <= value && value <= most;
    }

    /** All that belongs to a state. */
    private static final class Street {
        final int[] settings = {20000, 200, 300, 40};
        final House[] houses = new House[MOST_HOUSES];
        final Lease[] leases = new Lease[MOST_LEASES];
        int houseCount = 0;
        int leaseCount = 0;
        int minute = 0;
        int darkMinutes = 0;
        boolean powered = true;
        int store = 10000;
        int heatIn = 0;
        int heatOut = 0;

        Street() {
            Program none = new Program(0);
            for (int i = 0; i < MOST_HOUSES; i++) {
                houses[i] = new House(none);
            }
            for (int i = 0; i < MOST_LEASES; i++) {
                leases[i] = new Lease();
            }
        }

        /** Copies the houses that are not there too, so that they stay as new ones. */
        void copyFrom(Street from) {
            for (int i = 0; i < SETTINGS; i++) {
                settings[i] = from.settings[i];
            }
            for (int i = 0; i < MOST_HOUSES; i++) {
                houses[i].copyFrom(from.houses[i]);
            }
            for (int i = 0; i < MOST_LEASES; i++) {
                leases[i].copyFrom(from.leases[i]);
            }
            houseCount = from.houseCount;
            leaseCount = from.leaseCount;
            minute = from.minute;
            darkMinutes = from.darkMinutes;
            powered = from.powered;
            store = from.store;
            heatIn = from.heatIn;
            heatOut = from.heatOut;
        }

        boolean hasHouse(int house) {
            return isWithin(house, 0, houseCount - 1);
        }

        Washer washerOf(int house) {
            return houses[house].washer;
        }

        int settle(int shares, int price, int coins) {
            House house = houses[houseCount];
            house.ownShares = shares;
            house.price = price;
            house.coins = coins;
            houseCount++;
            return houseCount - 1;
        }

        void switchPower(boolean on) {
            powered = on;
            for (int i = 0; on && i < houseCount; i++) {
                washerOf(i).spinAnew();
            }
        }

        boolean hasUnlockedAbove(int degrees) {
            for (int i = 0; i < houseCount; i++) {
                if (washerOf(i).door != LOCKED && washerOf(i).temperature() > degrees) {
                    return true;
                }
            }
            return false;
        }

        int lentOf(int house) {
            int lent = 0;
            for (int i = 0; i < leaseCount; i++) {
                lent += leases[i].lender == house ? leases[i].shares : 0;
            }
            return lent;
        }

        int unlentOf(int house) {
            return houses[house].ownShares - lentOf(house);
        }

        int sharesOf(int house) {
            int shares = unlentOf(house);
            for (int i = 0; i < leaseCount; i++) {
                shares += leases[i].borrower == house ? leases[i].shares : 0;
            }
            return shares;
        }

        int askOf(int house, int shares) {
            int ask = shares * houses[house].price;
            return washerOf(house).state == RUNS ? 2 * ask : ask;
        }

        void refuse(int house, int other, boolean isClose) {
            houses[house].refusals++;
            houses[other].changePrice(isClose ? -1 : 1);
        }

        void pay(int house, int other, int coins) {
            houses[house].coins -= coins;
            houses[house].paid += coins;
            houses[house].deals++;
            houses[other].coins += coins;
            houses[other].received += coins;
            houses[other].changePrice(1);
        }

        void lend(int house, int other, int shares, int minutes, int coins) {
            Lease lease = leases[leaseCount];
            lease.lender = other;
            lease.borrower = house;
            lease.shares = shares;
            lease.minutesLeft = minutes;
            lease.coins = coins;
            leaseCount++;
        }

        int wantedHeat() {
            int wanted = 0;
            for (int i = 0; i < houseCount; i++) {
                wanted += washerOf(i).wantedHeat();
            }
            return wanted;
        }

        /** Tells the split what each house gets in the minute that comes, if there is power in it. */
        void divideHeat(HeatSplit split) {
            for (int i = 0; i < MOST_HOUSES; i++) {
                split.wants[i] = i < houseCount ? washerOf(i).wantedHeat() : 0;
                split.shares[i] = split.wants[i] > 0 ? sharesOf(i) : 0;
            }
            split.divide(Math.min(settings[OUTFLOW], storeWithInput()));
        }

        int storeWithInput() {
            return Math.min(settings[CAPACITY], store + settings[INPUT]);
        }

        /** Returns the heat that all houses get in this minute. */
        int passMinute(HeatSplit split) {
            int heat = 0;
            if (powered) {
                heat = giveHeat(split);
                work(split);
            } else {
                darkMinutes++;
            }
            for (int i = 0; i < houseCount; i++) {
                washerOf(i).cool();
                if (powered) {
                    washerOf(i).unlockIfSafe(settings[SAFE_HEAT]);
                }
            }
            shortenLeases();
            minute++;
            return heat;
        }

        int giveHeat(HeatSplit split) {
            divideHeat(split);
            int filled = storeWithInput();
            heatIn += filled - store;
            int heat = 0;
            for (int i = 0; i < houseCount; i++) {
                houses[i].heat += split.gets[i];
                heat += split.gets[i];
            }
            store = filled - heat;
            heatOut += heat;
            return heat;
        }

        void work(HeatSplit split) {
            for (int i = 0; i < houseCount; i++) {
                if (washerOf(i).state == RUNS && washerOf(i).endsInMinute(split.gets[i])) {
                    houses[i].programsEnded++;
                }
            }
        }

        void shortenLeases() {
            int left = 0;
            for (int i = 0; i < leaseCount; i++) {
                leases[i].minutesLeft--;
                if (leases[i].minutesLeft > 0) {
                    leases[left].copyFrom(leases[i]);
                    left++;
                }
            }
            leaseCount = left;
        }

        int washersIn(int state) {
            int found = 0;
            for (int i = 0; i < houseCount; i++) {
                found += washerOf(i).state == state ? 1 : 0;
            }
            return found;
        }

        int doorsIn(int door) {
            int found = 0;
            for (int i = 0; i < houseCount; i++) {
                found += washerOf(i).door == door ? 1 : 0;
            }
            return found;
        }

        int sumOf(int what) {
            int sum = 0;
            for (int i = 0; i < houseCount; i++) {
                sum += houses[i].tell(what);
            }
            return sum;
        }

        int tell(int what) {
            switch (what) {
                case 0: return minute;
                case 1: return powered ? 1 : 0;
                case 2: return houseCount;
                case 3: return washersIn(RUNS);
                case 4: return washersIn(STUCK);
                case 5: return doorsIn(LOCKED);
                case 6: return doorsIn(OPEN);
                case 7: return leaseCount;
                case 8: return sumOf(House.DEALS);
                case 9: return sumOf(House.REFUSALS);
                case 10: return darkMinutes;
                case 11: return sumOf(House.PROGRAMS_ENDED);
                case 12: return sumOf(House.OWN_SHARES);
                default: return BAD_VALUE;
            }
        }
    }

    /** The accounts of a house, and its washer. */
    private static final class House {
        static final int OWN_SHARES = 1;
        static final int PROGRAMS_ENDED = 5;
        static final int DEALS = 6;
        static final int REFUSALS = 7;

        final Washer washer;
        int ownShares = 0;
        int price = 0;
        int coins = 0;
        int heat = 0;
        int programsEnded = 0;
        int deals = 0;
        int refusals = 0;
        int paid = 0;
        int received = 0;

        House(Program program) {
            washer = new Washer(program);
        }

        void copyFrom(House from) {
            washer.copyFrom(from.washer);
            ownShares = from.ownShares;
            price = from.price;
            coins = from.coins;
            heat = from.heat;
            programsEnded = from.programsEnded;
            deals = from.deals;
            refusals = from.refusals;
            paid = from.paid;
            received = from.received;
        }

        void changePrice(int by) {
            price = Math.max(1, Math.min(MOST_PRICE, price + by));
        }

        int tell(int what) {
            switch (what) {
                case OWN_SHARES: return ownShares;
                case 2: return price;
                case 3: return coins;
                case 4: return heat;
                case PROGRAMS_ENDED: return programsEnded;
                case DEALS: return deals;
                case REFUSALS: return refusals;
                case 8: return paid;
                case 9: return received;
                default: return BAD_VALUE;
            }
        }
    }

    /** A washer; its phase and the minutes gone count only while it does not rest. */
    private static final class Washer {
        Program program;
        int state = RESTS;
        int door = CLOSED;
        int phase = 0;
        int gone = 0;
        int water = 0;
        long warmth = 0;
        int litresIn = 0;

        Washer(Program none) {
            program = none;
        }

        void copyFrom(Washer from) {
            program = from.program;
            state = from.state;
            door = from.door;
            phase = from.phase;
            gone = from.gone;
            water = from.water;
            warmth = from.warmth;
            litresIn = from.litresIn;
        }

        int temperature() {
            return water > 0 ? (int) (warmth / ((long) WARMTH_OF_DEGREE * water)) : COLD;
        }

        boolean canStart() {
            return program.length > 0 && state == RESTS && door != OPEN;
        }

        void begin() {
            state = RUNS;
            door = LOCKED;
            phase = 0;
            gone = 0;
        }

        void spinAnew() {
            if (state == RUNS && program.kindOf(phase) == SPIN) {
                gone = 0;
            }
        }

        int wantedHeat() {
            if (state != RUNS || program.kindOf(phase) != HEAT) {
                return 0;
            }
            long missing = (long) WARMTH_OF_DEGREE * water * program.numberOf(phase) - warmth;
            return (int) Math.max(0, Math.min(MOST_HEAT, missing));
        }

        /** Does a minute of its phase; returns whether its program came to its end with it. */
        boolean endsInMinute(int heat) {
            if (cannotWork()) {
                state = STUCK;
                return false;
            }
            gone++;
            change(heat);
            if (!isPhaseOver()) {
                return false;
            }
            phase++;
            gone = 0;
            if (phase < program.length) {
                return false;
            }
            state = RESTS;
            return true;
        }

        boolean cannotWork() {
            char kind = program.kindOf(phase);
            return kind == HEAT && water == 0 || kind == SPIN && water > 0;
        }

        void change(int heat) {
            switch (program.kindOf(phase)) {
                case FILL:
                    pour(program.numberOf(phase));
                    break;
                case HEAT:
                    warmth += heat;
                    break;
                case DRAIN:
                    drain();
                    break;
                default:
                    break;
            }
        }

        void pour(int allLitres) {
            int missing = allLitres - LITRES_IN * (gone - 1);
            int litres = Math.min(LITRES_IN, missing);
            water += litres;
            litresIn += litres;
            warmth += (long) COLD * WARMTH_OF_DEGREE * litres;
        }

        void drain() {
            int left = Math.max(0, water - LITRES_OUT);
            warmth = water > 0 ? warmth * left / water : 0;
            water = left;
        }

        boolean isPhaseOver() {
            int number = program.numberOf(phase);
            switch (program.kindOf(phase)) {
                case FILL: return LITRES_IN * gone >= number;
                case HEAT: return temperature() >= number;
                case DRAIN: return water == 0;
                default: return gone >= number;
            }
        }

        void cool() {
            int above = temperature() - COLD;
            if (water > 0 && above > 0) {
                warmth -= (long) above * water / LOSS_DIVISOR;
            }
        }

        void unlockIfSafe(int safeHeat) {
            if (door == LOCKED && state != RUNS && temperature() <= safeHeat) {
                door = CLOSED;
            }
        }

        int tell(int what) {
            switch (what) {
                case 0: return state;
                case 1: return state == RESTS ? NONE : phase;
                case 2: return water;
                case 3: return temperature();
                case 4: return (int) warmth;
                case 5: return door;
                case 6: return state == RESTS ? NONE : gone;
                case 7: return program.length;
                case 8: return litresIn;
                default: return BAD_VALUE;
            }
        }
    }

    /** A row of phases, which no one changes after it has been read: states share it. */
    private static final class Program {
        final int length;
        private final char[] kinds;
        private final int[] numbers;

        Program(int phases) {
            length = Math.max(0, phases);
            kinds = new char[length];
            numbers = new int[length];
        }

        boolean hasPhase(int phase) {
            return 0 <= phase && phase < length;
        }

        /** The letter, or (char) 0 behind the last phase, which is the letter of no kind. */
        char kindOf(int phase) {
            return hasPhase(phase) ? kinds[phase] : (char) 0;
        }

        int numberOf(int phase) {
            return hasPhase(phase) ? numbers[phase] : 0;
        }

        void putKind(int phase, char kind) {
            if (hasPhase(phase)) {
                kinds[phase] = kind;
            }
        }

        void putDigit(int phase, int digit) {
            if (hasPhase(phase)) {
                numbers[phase] = 10 * numbers[phase] + digit;
            }
        }

        boolean hasGoodNumbers() {
            for (int i = 0; i < length; i++) {
                if (!isGoodNumber(kinds[i], numbers[i])) {
                    return false;
                }
            }
            return true;
        }

        private static boolean isGoodNumber(char kind, int number) {
            switch (kind) {
                case FILL: return isWithin(number, 1, 60);
                case HEAT: return isWithin(number, 16, 95);
                case WASH: return isWithin(number, 1, 99);
                case SPIN: return isWithin(number, 1, 30);
                default: return number == 0;
            }
        }
    }

    /** Shares of one house that another one has for some minutes. */
    private static final class Lease {
        int lender = 0;
        int borrower = 0;
        int shares = 0;
        int minutesLeft = 0;
        int coins = 0;

        void copyFrom(Lease from) {
            lender = from.lender;
            borrower = from.borrower;
            shares = from.shares;
            minutesLeft = from.minutesLeft;
            coins = from.coins;
        }

        int tell(int what) {
            switch (what) {
                case 0: return lender;
                case 1: return borrower;
                case 2: return shares;
                case 3: return minutesLeft;
                case 4: return coins;
                default: return BAD_VALUE;
            }
        }
    }

    /** Splits the heat of a minute by shares; its rows are filled anew for each minute. */
    private static final class HeatSplit {
        final int[] wants = new int[MOST_HOUSES];
        final int[] shares = new int[MOST_HOUSES];
        final int[] gets = new int[MOST_HOUSES];

        void divide(int heat) {
            for (int i = 0; i < MOST_HOUSES; i++) {
                gets[i] = 0;
            }
            int left = heat;
            int lowest = lowestWanting();
            // each round gives at least one unit, so there are never more rounds than units
            for (int round = 0; round < MOST_OUTFLOW && left > 0 && lowest != NONE; round++) {
                int all = sharesOfWanting();
                int given = giveParts(left, all);
                left -= given > 0 ? given : giveLowest(lowest, left, all);
                lowest = lowestWanting();
            }
        }

        private boolean isWanting(int house) {
            return gets[house] < wants[house];
        }

        private int lowestWanting() {
            for (int i = 0; i < MOST_HOUSES; i++) {
                if (isWanting(i)) {
                    return i;
                }
            }
            return NONE;
        }

        private int sharesOfWanting() {
            int sum = 0;
            for (int i = 0; i < MOST_HOUSES; i++) {
                sum += isWanting(i) ? shares[i] : 0;
            }
            return sum;
        }

        private int giveParts(int left, int all) {
            int given = 0;
            for (int i = 0; all > 0 && i < MOST_HOUSES; i++) {
                int part = Math.min(left * shares[i] / all, wants[i] - gets[i]);
                gets[i] += part;
                given += part;
            }
            return given;
        }

        /**
         * Without shares all rounds up to the last unit that the lowest house wants are alike, so they
         * are done at once.
         */
        private int giveLowest(int lowest, int left, int all) {
            int units = all > 0 ? 1 : Math.min(left, wants[lowest] - gets[lowest]);
            gets[lowest] += units;
            return units;
        }
    }

    /** The latest states, the oldest one first; the places are used again. */
    private static final class History {
        private final Street[] states = new Street[MOST_STATES];
        int size = 0;

        History() {
            for (int i = 0; i < MOST_STATES; i++) {
                states[i] = new Street();
            }
        }

        void record(Street street) {
            if (size == MOST_STATES) {
                dropOldest();
            }
            states[size].copyFrom(street);
            size++;
        }

        private void dropOldest() {
            Street oldest = states[0];
            for (int i = 1; i < MOST_STATES; i++) {
                states[i - 1] = states[i];
            }
            states[MOST_STATES - 1] = oldest;
            size--;
        }

        /** Returns whether there was a state to take back. */
        boolean takeBack(Street street) {
            if (size == 0) {
                return false;
            }
            size--;
            street.copyFrom(states[size]);
            return true;
        }
    }

    /** The text that is typed, and how a program is read from it. */
    private static final class ProgramText {
        private static final int AT_LETTER = 0;
        private static final int AT_NUMBER = 1;
        private static final int AT_SECOND_DIGIT = 2;
        private static final int AT_SEPARATOR = 3;

        private final char[] characters = new char[MOST_CHARACTERS];
        int length = 0;

        boolean append(char character) {
            if (length >= MOST_CHARACTERS) {
                return false;
            }
            characters[length] = character;
            length++;
            return true;
        }

        /** Returns the index of the fault, or NONE. */
        int firstFault() {
            int place = AT_LETTER;
            for (int i = 0; i < length; i++) {
                place = placeBehind(place, characters[i]);
                if (place == NONE) {
                    return i;
                }
            }
            return place == AT_LETTER || place == AT_NUMBER ? length : NONE;
        }

        /** Returns what place comes behind a character at a place, or NONE if it is not allowed there. */
        private static int placeBehind(int place, char character) {
            switch (place) {
                case AT_LETTER:
                    if (character == DRAIN) {
                        return AT_SEPARATOR;
                    }
                    return isKindWithNumber(character) ? AT_NUMBER : NONE;
                case AT_NUMBER:
                    return isDigit(character) && character != '0' ? AT_SECOND_DIGIT : NONE;
                case AT_SECOND_DIGIT:
                    if (isDigit(character)) {
                        return AT_SEPARATOR;
                    }
                    return character == SEPARATOR ? AT_LETTER : NONE;
                default:
                    return character == SEPARATOR ? AT_LETTER : NONE;
            }
        }

        private static boolean isKindWithNumber(char character) {
            return character == FILL || character == HEAT || character == WASH || character == SPIN;
        }

        private static boolean isDigit(char character) {
            return '0' <= character && character <= '9';
        }

        /** Reads the program of a text without a fault; its numbers may be out of their ranges. */
        Program toProgram() {
            Program program = new Program(separators() + 1);
            int phase = 0;
            for (int i = 0; i < length; i++) {
                char character = characters[i];
                if (character == SEPARATOR) {
                    phase++;
                } else if (isDigit(character)) {
                    program.putDigit(phase, character - '0');
                } else {
                    program.putKind(phase, character);
                }
            }
            return program;
        }

        private int separators() {
            int found = 0;
            for (int i = 0; i < length; i++) {
                found += characters[i] == SEPARATOR ? 1 : 0;
            }
            return found;
        }
    }
}
