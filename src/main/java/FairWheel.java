import java.util.Arrays;

/** A fair's wheel that has no engine but the weight of those who sit in it; DOC.md promises what it answers. */
public final class FairWheel {
    public static final int NONE = -6, UNKNOWN = -1, OUTSIDE = -2, STATE = -3, FULL = -4, NO = -5;
    public static final long LOST = -1000000000000000000L;

    private static final int CARS = 8, PEOPLE = 8;
    private static final int LEAST_WEIGHT = 1, MOST_WEIGHT = 99, MOST_DRAG = 9999, MOST_PEBBLES = 99;
    private static final int MOST_SIGNS = 60, FIRST_CODE = 33, LAST_CODE = 126, MOST_ASKED = 3, MOST_SIGHTS = 6;
    private static final int MOST_MOVES = 3, MOST_SEATED = 5, MOST_DRAWS = 3, MOST_SEED = 9999, MOST_TURNS = 99;
    private static final int PULL_SHIFT = 1000000, TURN_SHIFT = 1000;
    /** Stands where a refusal or a reason would, when there is none. */
    private static final int FINE = 0;

    private final Wheel wheel = new Wheel();
    /** Questions are tried out on this copy, so that no call has to make a wheel of its own. */
    private final Wheel trial = new Wheel();
    private final Pad pad = new Pad();
    private final Sights sights = new Sights();
    private final Telling telling = new Telling();
    private final Seating seating = new Seating();
    private final Turns turns = new Turns();
    private final Image firstImage = new Image();
    private final Image secondImage = new Image();

    public FairWheel() {
    }

    // ---- 1 wheels, texts

    public int weigh(int person, int v) {
        if (!isPerson(person)) {
            return UNKNOWN;
        }
        if (v < LEAST_WEIGHT || v > MOST_WEIGHT) {
            return OUTSIDE;
        }
        int before = wheel.weightOf(person);
        wheel.setWeight(person, v);
        return before;
    }

    public int drag(int v) {
        if (v < 0 || v > MOST_DRAG) {
            return OUTSIDE;
        }
        int before = wheel.friction();
        wheel.setFriction(v);
        return before;
    }

    public int say(int sign) {
        if (sign < FIRST_CODE || sign > LAST_CODE) {
            return OUTSIDE;
        }
        if (pad.length() >= MOST_SIGNS) {
            return FULL;
        }
        pad.write(sign);
        return pad.length();
    }

    public int wipe() {
        int before = pad.length();
        pad.clear();
        return before;
    }

    public int fault() {
        return pad.firstFault();
    }

    // ---- 2 evenings

    public int judge(int what) {
        if (what < 0 || what > 1) {
            return OUTSIDE;
        }
        int refusal = refuseText();
        if (refusal != FINE) {
            return refusal;
        }
        telling.tell(wheel, pad, NONE, 0);
        return what == 0 ? telling.failedEvent() : telling.reason();
    }

    public int done() {
        int refusal = refuseEvening();
        if (refusal != FINE) {
            return refusal;
        }
        wheel.copyFrom(telling.wheel());
        int events = pad.length();
        pad.clear();
        return events;
    }

    public int foot() {
        return wheel.lowest();
    }

    public int car(int car, int what) {
        if (!isCar(car)) {
            return UNKNOWN;
        }
        if (what < 0 || what > 2) {
            return OUTSIDE;
        }
        if (what == 0) {
            return wheel.riderOf(car);
        }
        return what == 1 ? wheel.loadOf(car) : wheel.placeOf(car);
    }

    public int pull() {
        return wheel.pullNow() + PULL_SHIFT;
    }

    public int behind(int what) {
        if (what < 0 || what > 2) {
            return OUTSIDE;
        }
        int refusal = refuseEvening();
        if (refusal != FINE) {
            return refusal;
        }
        if (what == 0) {
            return telling.wheel().lowest();
        }
        return what == 1 ? telling.wheel().pullNow() + PULL_SHIFT : telling.turned() + TURN_SHIFT;
    }

    public int leftOut(int i) {
        int refusal = refuseEvening();
        if (refusal != FINE) {
            return refusal;
        }
        int lowest = telling.wheel().lowest();
        int found = 0;
        for (int event = 0; event < pad.length(); event++) {
            if (canBeLeftOut(event, lowest)) {
                if (found == i) {
                    return event;
                }
                found++;
            }
        }
        return i == -1 ? found : NONE;
    }

    // ---- 3 down, balance

    public int down(int person, int what) {
        if (!isPerson(person)) {
            return UNKNOWN;
        }
        if (what < 0 || what > 2) {
            return OUTSIDE;
        }
        if (!wheel.isAboard(person)) {
            return STATE;
        }
        if (wheel.isLowest(person)) {
            return what == 0 ? 0 : NONE;
        }
        trial.copyFrom(wheel);
        for (int moves = 1; moves <= MOST_MOVES; moves++) {
            int move = Moves.first(trial, person, moves);
            if (move != NONE) {
                return what == 0 ? moves : tellMove(move, what);
            }
        }
        return NONE;
    }

    public int pebbles(int person) {
        if (!isPerson(person)) {
            return UNKNOWN;
        }
        if (!wheel.isAboard(person)) {
            return STATE;
        }
        for (int load = 0; load <= MOST_PEBBLES; load++) {
            trial.copyFrom(wheel);
            trial.setLoad(trial.lowest(), load);
            trial.letGo();
            if (trial.isLowest(person)) {
                return load;
            }
        }
        return NONE;
    }

    public int brake() {
        return wheel.greatestPull();
    }

    public int balance(int set, int person) {
        if (person != -1 && !isPerson(person)) {
            return UNKNOWN;
        }
        if (set < 0 || set >= 1 << PEOPLE) {
            return OUTSIDE;
        }
        if (person != -1 && !isOf(set, person)) {
            return UNKNOWN;
        }
        if (Integer.bitCount(set) > MOST_SEATED) {
            return FULL;
        }
        int ways = seating.count(wheel, set);
        if (person == -1) {
            return ways;
        }
        return ways == 0 ? NONE : seating.carInFirst(person);
    }

    // ---- 4 what is not told

    public int could(int person, int car, int what) {
        if (!isPerson(person) || !isCar(car)) {
            return UNKNOWN;
        }
        if (what < 0 || what > 2) {
            return OUTSIDE;
        }
        int refusal = refuseText();
        if (refusal != FINE) {
            return refusal;
        }
        int count = 0;
        int least = NONE;
        int greatest = NONE;
        for (int weight = LEAST_WEIGHT; weight <= MOST_WEIGHT; weight++) {
            if (endsAt(person, weight, car)) {
                count++;
                least = least == NONE ? weight : least;
                greatest = weight;
            }
        }
        if (what == 0) {
            return count;
        }
        return what == 1 ? least : greatest;
    }

    public int seen(int person, int car) {
        if (!isPerson(person) || !isCar(car)) {
            return UNKNOWN;
        }
        if (sights.count() >= MOST_SIGHTS) {
            return FULL;
        }
        sights.add(person, car);
        return sights.count();
    }

    public int forget() {
        int before = sights.count();
        sights.clear();
        return before;
    }

    public int filled(int i) {
        if (pad.firstFault() != NONE) {
            return NO;
        }
        int asked = pad.asked();
        int all = Filling.howMany(asked);
        int ways = 0;
        int first = NONE;
        for (int filling = 0; filling < all; filling++) {
            if (holds(filling)) {
                ways++;
                first = first == NONE ? filling : first;
            }
        }
        if (i == -1) {
            return ways;
        }
        boolean none = ways == 0 || i < 0 || i >= asked;
        return none ? NONE : Filling.personAt(first, i, asked);
    }

    public long chance(int person, int m, int part) {
        if (!isPerson(person)) {
            return LOST + UNKNOWN;
        }
        if (m < 0 || m > MOST_DRAWS || part < 0 || part > 1) {
            return LOST + OUTSIDE;
        }
        trial.copyFrom(wheel);
        long upper = Draws.shares(trial, person, m);
        long lower = Draws.allShares(m);
        long divisor = greatestDivisor(upper, lower);
        if (divisor <= 0) {
            return part;
        }
        return part == 0 ? upper / divisor : lower / divisor;
    }

    public int year(int seed, int m, int car) {
        if (car != -1 && !isCar(car)) {
            return UNKNOWN;
        }
        if (seed < 0 || seed > MOST_SEED || m < 1 || m > MOST_TURNS) {
            return OUTSIDE;
        }
        turns.take(wheel, seed, m);
        return car == -1 ? turns.turned() : turns.timesLowest(car);
    }

    public int image(int n) {
        if (n < 0 || n > 1) {
            return OUTSIDE;
        }
        imageOf(n).keep(wheel, sights);
        return 1;
    }

    public int restore(int n) {
        if (n < 0 || n > 1) {
            return OUTSIDE;
        }
        Image image = imageOf(n);
        if (!image.isKept()) {
            return STATE;
        }
        image.giveBack(wheel, sights);
        return 1;
    }

    public int told(int what) {
        if (what >= 10 && what < 10 + PEOPLE) {
            return wheel.weightOf(what - 10);
        }
        if (what >= 20 && what < 20 + PEOPLE) {
            return wheel.carOf(what - 20);
        }
        switch (what) {
            case 0:
                return pad.length();
            case 1:
                return wheel.friction();
            case 2:
                return sights.count();
            case 3:
                return wheel.takenCars();
            default:
                return OUTSIDE;
        }
    }

    // ---- what the calls have in common

    private static boolean isPerson(int person) {
        return person >= 0 && person < PEOPLE;
    }

    private static boolean isCar(int car) {
        return car >= 0 && car < CARS;
    }

    private static boolean isOf(int set, int person) {
        return (set >> person & 1) == 1;
    }

    /** The i-th number of a row; NONE beyond its ends. */
    private static int at(int[] row, int i) {
        return i >= 0 && i < row.length ? row[i] : NONE;
    }

    private static void put(int[] row, int i, int v) {
        if (i >= 0 && i < row.length) {
            row[i] = v;
        }
    }

    private static void copyRow(int[] from, int[] to) {
        System.arraycopy(from, 0, to, 0, Math.min(from.length, to.length));
    }

    private static long greatestDivisor(long a, long b) {
        long greater = a;
        long smaller = b;
        // each second round halves the numbers, so 128 rounds are enough for any two
        for (int round = 0; round < 128 && smaller != 0; round++) {
            long rest = greater % smaller;
            greater = smaller;
            smaller = rest;
        }
        return greater;
    }

    private Image imageOf(int n) {
        return n == 0 ? firstImage : secondImage;
    }

    private int refuseText() {
        if (pad.firstFault() != NONE) {
            return NO;
        }
        return pad.asked() > 0 ? STATE : FINE;
    }

    /** The text is told then, if it is not refused. */
    private int refuseEvening() {
        int refusal = refuseText();
        if (refusal != FINE) {
            return refusal;
        }
        return telling.tell(wheel, pad, NONE, 0) ? FINE : NO;
    }

    private boolean canBeLeftOut(int event, int lowest) {
        if (Pad.isMotion(pad.signAt(event))) {
            return false;
        }
        return telling.tell(wheel, pad, event, 0) && telling.wheel().lowest() == lowest;
    }

    private int tellMove(int move, int what) {
        if (what == 1) {
            return Moves.getsOut(wheel, move) ? 1 : 0;
        }
        return isPerson(move) ? move : NONE;
    }

    private boolean endsAt(int person, int weight, int car) {
        trial.copyFrom(wheel);
        trial.setWeight(person, weight);
        return telling.tell(trial, pad, NONE, 0) && telling.wheel().lowest() == car;
    }

    private boolean holds(int filling) {
        return telling.tell(wheel, pad, NONE, filling) && sights.areTrue(telling.wheel());
    }

    /** The wheel itself: who weighs what, who sits where, and how it turns. */
    private static final class Wheel {
        private static final int[] ARMS = {0, 7, 10, 7, 0, -7, -10, -7};
        private static final int FIRST_WEIGHT = 10, FIRST_DRAG = 20;

        private final int[] weights = new int[PEOPLE];
        private final int[] cars = new int[PEOPLE];
        private final int[] riders = new int[CARS];
        private final int[] loads = new int[CARS];
        private int lowest = 0;
        private int friction = FIRST_DRAG;

        Wheel() {
            Arrays.fill(weights, FIRST_WEIGHT);
            Arrays.fill(cars, NONE);
            Arrays.fill(riders, NONE);
        }

        void copyFrom(Wheel other) {
            copyRow(other.weights, weights);
            copyRow(other.cars, cars);
            copyRow(other.riders, riders);
            copyRow(other.loads, loads);
            lowest = other.lowest;
            friction = other.friction;
        }

        /** Nobody and no pebbles are on it any more; weights and drag stay. */
        void clear() {
            Arrays.fill(cars, NONE);
            Arrays.fill(riders, NONE);
            Arrays.fill(loads, 0);
        }

        int weightOf(int person) {
            return at(weights, person);
        }

        void setWeight(int person, int v) {
            put(weights, person, v);
        }

        int friction() {
            return friction;
        }

        void setFriction(int v) {
            friction = v;
        }

        int lowest() {
            return lowest;
        }

        int riderOf(int car) {
            return at(riders, car);
        }

        int carOf(int person) {
            return at(cars, person);
        }

        boolean isAboard(int person) {
            return at(cars, person) != NONE;
        }

        boolean isLowest(int person) {
            return at(cars, person) == lowest;
        }

        /** Whether somebody is in the car at the foot. */
        boolean isTaken() {
            return at(riders, lowest) != NONE;
        }

        int loadOf(int car) {
            return at(loads, car);
        }

        void setLoad(int car, int v) {
            put(loads, car, v);
        }

        int placeOf(int car) {
            return Math.floorMod(car - lowest, CARS);
        }

        int takenCars() {
            int bits = 0;
            for (int car = 0; car < CARS; car++) {
                if (at(riders, car) != NONE) {
                    bits |= 1 << car;
                }
            }
            return bits;
        }

        void seat(int person, int car) {
            put(riders, car, person);
            put(cars, person, car);
        }

        void unseat(int car) {
            put(cars, at(riders, car), NONE);
            put(riders, car, NONE);
        }

        /** One more turn by so many cars; nobody and no pebbles are moved. */
        void turn(int by) {
            lowest = Math.floorMod(lowest + by, CARS);
        }

        /** Takes a move back: this car is the lowest again, and only this rider (or nobody) is in it. */
        void takeBack(int car, int rider) {
            lowest = Math.floorMod(car, CARS);
            unseat(car);
            if (rider != NONE) {
                seat(rider, car);
            }
        }

        int pullNow() {
            return pullAt(lowest);
        }

        /** The pull that there would be if this car were at the foot. */
        private int pullAt(int foot) {
            int sum = 0;
            for (int car = 0; car < CARS; car++) {
                int rider = at(riders, car);
                int weight = at(loads, car) + (rider == NONE ? 0 : at(weights, rider));
                sum += weight * at(ARMS, Math.floorMod(car - foot, CARS));
            }
            return sum;
        }

        int greatestPull() {
            int greatest = 0;
            for (int foot = 0; foot < CARS; foot++) {
                greatest = Math.max(greatest, Math.abs(pullAt(foot)));
            }
            return greatest;
        }

        /** Answers by how many cars it turned, less than 0 when it turned back. */
        int letGo() {
            int way = wayOf(pullAt(lowest));
            int now = way;
            int turned = 0;
            // the arms are 0 together, so the pull can not be on one side all round: under 8 steps
            for (int step = 0; step < CARS && now != 0 && now == way; step++) {
                turn(way);
                turned += way;
                now = wayOf(pullAt(lowest));
            }
            return turned;
        }

        /** Whither such a pull turns it: 1 on, -1 back, 0 if it stands. */
        private int wayOf(int pull) {
            if (pull > friction) {
                return 1;
            }
            return pull < -friction ? -1 : 0;
        }
    }

    /** The text that is being written. */
    private static final class Pad {
        private final int[] signs = new int[MOST_SIGNS];
        private int length = 0;
        private int asked = 0;

        Pad() {
        }

        static boolean getsIn(int sign) {
            return sign >= 'A' && sign < 'A' + PEOPLE;
        }

        static boolean getsOut(int sign) {
            return sign >= 'a' && sign < 'a' + PEOPLE;
        }

        static boolean isDigit(int sign) {
            return sign >= '0' && sign <= '9';
        }

        static boolean isMotion(int sign) {
            return sign == '^' || sign == '>' || sign == '<';
        }

        int length() {
            return length;
        }

        int signAt(int i) {
            return at(signs, i);
        }

        void write(int sign) {
            if (length < signs.length) {
                put(signs, length, sign);
                length++;
                asked += sign == '?' ? 1 : 0;
            }
        }

        void clear() {
            length = 0;
            asked = 0;
        }

        /** How many get in who are not told. */
        int asked() {
            return asked;
        }

        int firstFault() {
            int askedBefore = 0;
            for (int i = 0; i < length; i++) {
                int sign = signAt(i);
                boolean canStand = sign == '?' ? askedBefore < MOST_ASKED
                        : getsIn(sign) || getsOut(sign) || isDigit(sign) || isMotion(sign);
                if (!canStand) {
                    return i;
                }
                askedBefore += sign == '?' ? 1 : 0;
            }
            return NONE;
        }
    }

    /** Where people were seen behind the text. */
    private static final class Sights {
        private final int[] people = new int[MOST_SIGHTS];
        private final int[] cars = new int[MOST_SIGHTS];
        private int count = 0;

        Sights() {
        }

        void copyFrom(Sights other) {
            copyRow(other.people, people);
            copyRow(other.cars, cars);
            count = other.count;
        }

        int count() {
            return count;
        }

        void add(int person, int car) {
            if (count < MOST_SIGHTS) {
                put(people, count, person);
                put(cars, count, car);
                count++;
            }
        }

        void clear() {
            count = 0;
        }

        boolean areTrue(Wheel wheel) {
            for (int i = 0; i < count; i++) {
                if (wheel.carOf(at(people, i)) != at(cars, i)) {
                    return false;
                }
            }
            return true;
        }
    }

    /** Fillings of the asked places as one number: a person is three bits, the first place the highest. */
    private static final class Filling {
        private static final int BITS = 3;

        private Filling() {
        }

        static int howMany(int asked) {
            return asked < 0 || asked > MOST_ASKED ? 0 : 1 << BITS * asked;
        }

        static int personAt(int filling, int i, int asked) {
            return filling >> BITS * (asked - 1 - i) & PEOPLE - 1;
        }
    }

    /** A text told, event by event, on a wheel of its own. */
    private static final class Telling {
        private static final int ABOARD = 1, TAKEN = 2, ABSENT = 3, HEAVY = 4;

        private final Wheel wheel = new Wheel();
        private int failedEvent = NONE;
        private int reason = NONE;
        private int turned = 0;
        private int filling = 0;
        private int asked = 0;
        private int askedBefore = 0;

        Telling() {
        }

        /** The wheel as it is behind the text, or behind what could be of it. */
        Wheel wheel() {
            return wheel;
        }

        int failedEvent() {
            return failedEvent;
        }

        int reason() {
            return reason;
        }

        int turned() {
            return turned;
        }

        /** Tells all events but the one left out (NONE: all), up to the first that can not be; whether all can be. */
        boolean tell(Wheel start, Pad pad, int left, int people) {
            wheel.copyFrom(start);
            failedEvent = NONE;
            reason = NONE;
            turned = 0;
            filling = people;
            asked = pad.asked();
            askedBefore = 0;
            for (int event = 0; event < pad.length(); event++) {
                int obstacle = event == left ? FINE : happen(pad.signAt(event));
                if (obstacle != FINE) {
                    failedEvent = event;
                    reason = obstacle;
                    return false;
                }
            }
            return true;
        }

        private int happen(int sign) {
            if (sign == '^') {
                turned += wheel.letGo();
                return FINE;
            }
            if (Pad.isMotion(sign)) {
                wheel.turn(sign == '>' ? 1 : -1);
                return FINE;
            }
            if (Pad.isDigit(sign)) {
                return load(sign - '0');
            }
            if (Pad.getsOut(sign)) {
                return letOut(sign - 'a');
            }
            if (sign == '?') {
                int person = Filling.personAt(filling, askedBefore, asked);
                askedBefore++;
                return letIn(person);
            }
            return letIn(sign - 'A');
        }

        private int load(int more) {
            int lowest = wheel.lowest();
            int load = more == 0 ? 0 : wheel.loadOf(lowest) + more;
            if (load > MOST_PEBBLES) {
                return HEAVY;
            }
            wheel.setLoad(lowest, load);
            return FINE;
        }

        private int letIn(int person) {
            if (wheel.isAboard(person)) {
                return ABOARD;
            }
            if (wheel.isTaken()) {
                return TAKEN;
            }
            wheel.seat(person, wheel.lowest());
            return FINE;
        }

        private int letOut(int person) {
            if (!wheel.isLowest(person)) {
                return ABSENT;
            }
            wheel.unseat(wheel.lowest());
            return FINE;
        }
    }

    /**
     * Moves that bring somebody down, as numbers in the order in which they are told: 0 to 7 this one gets in
     * (who was there gets out), then nobody gets in and who is there stays, then he gets out.
     */
    private static final class Moves {
        private static final int STAYS = PEOPLE, LEAVES = PEOPLE + 1, ALL = PEOPLE + 2;

        private Moves() {
        }

        static boolean getsOut(Wheel wheel, int move) {
            return move != STAYS && wheel.isTaken();
        }

        private static boolean canBe(Wheel wheel, int move) {
            if (move == STAYS) {
                return true;
            }
            return move == LEAVES ? wheel.isTaken() : wheel.isLowest(move) || !wheel.isAboard(move);
        }

        private static void make(Wheel wheel, int move) {
            if (move != STAYS) {
                wheel.unseat(wheel.lowest());
            }
            if (isPerson(move)) {
                wheel.seat(move, wheel.lowest());
            }
            wheel.letGo();
        }

        /** The first of so many moves (3 at most) that bring the person down; the wheel is as before then. */
        static int first(Wheel wheel, int person, int moves) {
            return moves < 1 || moves > MOST_MOVES ? NONE : search(wheel, person, moves);
        }

        private static int search(Wheel wheel, int person, int moves) {
            int lowest = wheel.lowest();
            int rider = wheel.riderOf(lowest);
            for (int move = 0; move < ALL; move++) {
                if (canBe(wheel, move)) {
                    make(wheel, move);
                    boolean there = moves <= 1 ? wheel.isLowest(person)
                            : search(wheel, person, moves - 1) != NONE;
                    wheel.takeBack(lowest, rider);
                    if (there) {
                        return move;
                    }
                }
            }
            return NONE;
        }
    }

    /** Ways to seat people so that the wheel stands wherever it is turned to. */
    private static final class Seating {
        private final Wheel wheel = new Wheel();
        private final int[] firstCars = new int[PEOPLE];
        private boolean found = false;

        Seating() {
        }

        /** The least person is tried in car 0 alone: turned seatings stand alike, and the first has him there. */
        int count(Wheel start, int set) {
            found = false;
            wheel.copyFrom(start);
            wheel.clear();
            int least = leastOf(set);
            if (least == NONE) {
                return settle();
            }
            wheel.seat(least, 0);
            return CARS * search(this, set, least + 1);
        }

        private static int leastOf(int set) {
            for (int person = 0; person < PEOPLE; person++) {
                if (isOf(set, person)) {
                    return person;
                }
            }
            return NONE;
        }

        int carInFirst(int person) {
            return at(firstCars, person);
        }

        private static int search(Seating seating, int set, int person) {
            if (person >= PEOPLE) {
                return seating.settle();
            }
            if (!isOf(set, person)) {
                return search(seating, set, person + 1);
            }
            int ways = 0;
            for (int car = 0; car < CARS; car++) {
                if (seating.wheel.riderOf(car) == NONE) {
                    seating.wheel.seat(person, car);
                    ways += search(seating, set, person + 1);
                    seating.wheel.unseat(car);
                }
            }
            return ways;
        }

        private int settle() {
            if (wheel.greatestPull() > wheel.friction()) {
                return 0;
            }
            if (!found) {
                found = true;
                copyRow(wheel.cars, firstCars);
            }
            return 1;
        }
    }

    /** Who gets in by chance. A draw has 840 shares, which can be parted evenly among 1 to 8 people. */
    private static final class Draws {
        private static final int SHARES = 840;

        private Draws() {
        }

        static long allShares(int draws) {
            long all = 1;
            for (int i = 0; i < draws && i < MOST_DRAWS; i++) {
                all *= SHARES;
            }
            return all;
        }

        /** Of all shares of so many draws (3 at most) those that bring the person down; the wheel is as before then. */
        static long shares(Wheel wheel, int person, int draws) {
            return draws < 0 || draws > MOST_DRAWS ? 0 : sum(wheel, person, draws);
        }

        private static long sum(Wheel wheel, int person, int draws) {
            if (draws <= 0) {
                return wheel.isLowest(person) ? 1 : 0;
            }
            int waiting = waiting(wheel);
            if (wheel.isTaken() || waiting <= 0) {
                return SHARES * sumLetGo(wheel, person, draws);
            }
            int lowest = wheel.lowest();
            long sum = 0;
            for (int who = 0; who < PEOPLE; who++) {
                if (!wheel.isAboard(who)) {
                    wheel.seat(who, lowest);
                    sum += sumLetGo(wheel, person, draws);
                    wheel.unseat(lowest);
                }
            }
            return SHARES / waiting * sum;
        }

        private static long sumLetGo(Wheel wheel, int person, int draws) {
            int turned = wheel.letGo();
            long sum = sum(wheel, person, draws - 1);
            wheel.turn(-turned);
            return sum;
        }

        private static int waiting(Wheel wheel) {
            int count = 0;
            for (int person = 0; person < PEOPLE; person++) {
                if (!wheel.isAboard(person)) {
                    count++;
                }
            }
            return count;
        }
    }

    /** A year's turns, on a wheel of their own. */
    private static final class Turns {
        private static final int TIMES = 75, MORE = 74, MODULUS = 65537;

        private final Wheel wheel = new Wheel();
        private final int[] timesLowest = new int[CARS];
        private int turned = 0;

        Turns() {
        }

        int turned() {
            return turned;
        }

        int timesLowest(int car) {
            return at(timesLowest, car);
        }

        void take(Wheel start, int seed, int turns) {
            wheel.copyFrom(start);
            turned = 0;
            Arrays.fill(timesLowest, 0);
            int x = seed;
            for (int i = 0; i < turns && i < MOST_TURNS; i++) {
                x = Math.floorMod(TIMES * x + MORE, MODULUS);
                change(x);
                if (x / 16 % 3 == 0) {
                    wheel.turn(1);
                }
                turned += Math.abs(wheel.letGo());
                put(timesLowest, wheel.lowest(), at(timesLowest, wheel.lowest()) + 1);
            }
        }

        private void change(int x) {
            int lowest = wheel.lowest();
            if (x % 2 == 1) {
                wheel.unseat(lowest);
            }
            int person = x / 2 % PEOPLE;
            if (!wheel.isTaken() && !wheel.isAboard(person)) {
                wheel.seat(person, lowest);
            }
        }
    }

    /** All but the pad, as it was when it was kept. */
    private static final class Image {
        private final Wheel wheel = new Wheel();
        private final Sights sights = new Sights();
        private boolean kept = false;

        Image() {
        }

        boolean isKept() {
            return kept;
        }

        void keep(Wheel wheelNow, Sights sightsNow) {
            wheel.copyFrom(wheelNow);
            sights.copyFrom(sightsNow);
            kept = true;
        }

        void giveBack(Wheel wheelNow, Sights sightsNow) {
            wheelNow.copyFrom(wheel);
            sightsNow.copyFrom(sights);
        }
    }
}
