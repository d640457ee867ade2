import java.util.Arrays;

/** Up to three moving stairs between two floors, tick by tick; ../shared/DOC.md is what it promises. */
public final class StairsThatGo {
    public static final int BAD = -1, NOT = -2, FULL = -3, NONE = -4, NULL = -11, CAST = -12, INDEX = -13, SIZE = -14;

    private static final int MOST_STAIRS = 3, MOST_STEPS = 10, MOST_PEOPLE = 14, LAST_TICK = 99, TICKS = 100;
    private static final int MOST_BYTES = 80, MOST_TYPED = 8, MOST_TOLD = 8, FIRST_FAULT = -20;
    private static final int SHEETS = 4, LANES = 3, MOST_ITEMS = 16, MOST_COUNTS = 10, LOWER = 100000;
    private static final int NOBODY = -1;

    /** Far above all waits and all energy of a day. */
    private static final int NO_BOUND = 1000000;

    private static final int LENGTH = 0, WAY = 1, PACE = 2;
    private static final int STAND = 0;
    private static final int TICK = 0, FLOOR = 1, KIND = 2;
    private static final int STANDING = 0, WALKING = 1, BAGGED = 2, CHILD = 3, FEARING = 4;
    private static final int RULE = 0, ROOM = 1, LEAVE = 2, LIMIT = 3, REST = 4, BASE = 5, BACK = 6;
    private static final int RIGHT = 0, LEFT = 1;

    /** The first four are numbered as the call "at" asks for them. */
    private static final int WAITS = 0, LANDED = 1, RIDES = 2, THROUGH = 3, AWAY = 4;

    private static final int[] STAIR_LOW = {3, 0, 1};
    private static final int[] STAIR_HIGH = {10, 2, 2};
    private static final int[] PERSON_HIGH = {99, 1, 4};
    private static final int[] SETTING_LOW = {0, 1, 1, 2, 1, 0, 0};
    private static final int[] SETTING_HIGH = {1, 9, 3, 40, 9, 9, 10};
    private static final int[] SETTING_FIRST = {1, 4, 2, 12, 3, 2, 5};
    private static final int[] WEIGHT = {2, 2, 4, 1, 2};
    private static final int[] THREES = {1, 3, 9, 27};
    private static final int[] TENS = {1, 10, 100};

    private final Plan plan = new Plan();
    private final Plan kept = new Plan();
    private boolean isKept;
    private final Tape tape = new Tape();
    private final Row[] rows = new Row[SHEETS];

    /** The day as told, once it has been run; the other two are for what would be. */
    private final Day day = new Day();
    private final Day trial = new Day();
    private final Day morning = new Day();
    private boolean isRun;

    /** The best change that was looked for last: its tick, or 0 if the plan was told anew since. */
    private int soughtTick;
    private int soughtBefore;
    private int soughtAfter;
    private int soughtSum;

    public StairsThatGo() {
        for (int s = 0; s < SHEETS; s++) {
            rows[s] = new Row();
        }
    }

    // ---- 1 stairs, people

    public int stair(int length, int pace) {
        if (!isBetween(length, STAIR_LOW[LENGTH], STAIR_HIGH[LENGTH])
                || !isBetween(pace, STAIR_LOW[PACE], STAIR_HIGH[PACE])) {
            return BAD;
        }
        if (plan.stairs >= MOST_STAIRS) {
            return FULL;
        }
        int number = plan.stairs;
        plan.stair[LENGTH][number] = length;
        plan.stair[WAY][number] = STAND;
        plan.stair[PACE][number] = pace;
        plan.stairs = number + 1;
        tellAnew();
        return number;
    }

    public int of(int stair, int what, int v) {
        if (!isStair(stair) || !isBetween(what, LENGTH, PACE)
                || !isBetween(v, STAIR_LOW[what], STAIR_HIGH[what])) {
            return BAD;
        }
        int was = plan.stair[what][stair];
        plan.stair[what][stair] = v;
        tellAnew();
        return was;
    }

    public int set(int what, int v) {
        if (!isBetween(what, RULE, BACK) || !isBetween(v, SETTING_LOW[what], SETTING_HIGH[what])) {
            return BAD;
        }
        int was = plan.setting[what];
        plan.setting[what] = v;
        tellAnew();
        return was;
    }

    public int change(int tick, int ways) {
        if (!isBetween(tick, 0, LAST_TICK) || !isBetween(ways, 0, THREES[MOST_STAIRS] - 1)) {
            return BAD;
        }
        int was = plan.changeTick;
        plan.changeTick = tick;
        plan.changeWays = ways;
        tellAnew();
        return was;
    }

    public int person(int tick, int floor, int kind) {
        if (!isBetween(tick, 0, PERSON_HIGH[TICK]) || !isBetween(floor, 0, PERSON_HIGH[FLOOR])
                || !isBetween(kind, 0, PERSON_HIGH[KIND])) {
            return BAD;
        }
        if (plan.people >= MOST_PEOPLE) {
            return FULL;
        }
        plan.addPerson(tick, floor, kind);
        tellAnew();
        return plan.people - 1;
    }

    public int told(int person, int what) {
        if (!isPerson(person) || !isBetween(what, TICK, KIND + 1)) {
            return BAD;
        }
        return what <= KIND ? plan.person[what][person] : weightOf(plan.person[KIND][person]);
    }

    public int strike(int person) {
        if (!isPerson(person)) {
            return BAD;
        }
        plan.removePerson(person);
        tellAnew();
        return plan.people;
    }

    public int type(long w, int n) {
        if (!isBetween(n, 1, MOST_TYPED)) {
            return BAD;
        }
        for (int k = 0; k < n; k++) {
            if (!isBetween(byteOf(w, k), 32, 126)) {
                return BAD;
            }
        }
        if (n > MOST_BYTES - tape.length) {
            return FULL;
        }
        for (int k = n - 1; k >= 0; k--) {
            tape.add(byteOf(w, k));
        }
        return tape.length;
    }

    public int people() {
        int fault = tape.parse();
        tape.length = 0;
        if (fault < 0) {
            return fault;
        }
        if (tape.found > MOST_PEOPLE - plan.people) {
            return FULL;
        }
        for (int k = 0; k < tape.found; k++) {
            plan.addPerson(tape.person[TICK][k], tape.person[FLOOR][k], tape.person[KIND][k]);
        }
        tellAnew();
        return tape.found;
    }

    public int count(int what) {
        switch (what) {
            case 0: return plan.stairs;
            case 1: return plan.people;
            case 2: return plan.countUp();
            default: return BAD;
        }
    }

    // ---- 2 what goes on

    public int fate(int person, int what) {
        if (!isPerson(person) || !isBetween(what, 0, 4)) {
            return BAD;
        }
        Rider rider = toldDay().riders[person];
        switch (what) {
            case 0: return orNone(rider.stepped);
            case 1: return orNone(rider.stair);
            case 2: return orNone(rider.through);
            case 3: return rider.countWait();
            default: return rider.fell ? 1 : 0;
        }
    }

    public int at(int tick, int what) {
        if (!isBetween(tick, 0, LAST_TICK) || !isBetween(what, 0, 4)) {
            return BAD;
        }
        trial.load(plan, NOBODY);
        trial.run(0, tick);
        return what <= THROUGH ? trial.setOf(what) : trial.tripDigits();
    }

    public int on(int tick, int stair, int step, int place) {
        if (!isBetween(tick, 0, LAST_TICK) || !isStair(stair) || !isBetween(place, RIGHT, LEFT)
                || !isBetween(step, 0, plan.stair[LENGTH][stair] - 1)) {
            return BAD;
        }
        trial.load(plan, NOBODY);
        trial.run(0, tick);
        return orNone(trial.flights[stair].who(step, place));
    }

    public int all(int what) {
        if (!isBetween(what, 0, 6)) {
            return BAD;
        }
        Day told = toldDay();
        switch (what) {
            case 0: return told.waits;
            case 1: return told.energy;
            case 2: return told.jams;
            case 3: return told.trips;
            case 4: return told.setOfFallen();
            case 5: return told.countThrough(LAST_TICK);
            default: return told.lastThrough();
        }
    }

    // ---- 3 what would be

    public int ways(int what) {
        if (!isBetween(what, 0, 1)) {
            return BAD;
        }
        if (plan.stairs == 0) {
            return NOT;
        }
        int least = NO_BOUND;
        int best = 0;
        for (int w = 0; w < THREES[plan.stairs]; w++) {
            trial.loadAllDay(plan, w);
            trial.runWaits(0, least);
            if (trial.waits < least) {
                least = trial.waits;
                best = w;
            }
        }
        return what == 0 ? best : least;
    }

    public int best(int tick, int what) {
        if (!isBetween(tick, 1, LAST_TICK) || !isBetween(what, 0, 2)) {
            return BAD;
        }
        if (plan.stairs == 0) {
            return NOT;
        }
        if (soughtTick != tick) {
            seekChange(tick);
        }
        switch (what) {
            case 0: return soughtBefore;
            case 1: return soughtAfter;
            default: return soughtSum;
        }
    }

    public int thrift(int tick, int what) {
        if (!isBetween(tick, 0, LAST_TICK) || !isBetween(what, 0, 1)) {
            return BAD;
        }
        if (plan.stairs == 0) {
            return NOT;
        }
        int least = NO_BOUND;
        int best = NONE;
        for (int paces = 0; paces < 1 << plan.stairs; paces++) {
            trial.load(plan, NOBODY);
            trial.setPaces(paces);
            trial.run(0, LAST_TICK);
            if (trial.lastThrough() <= tick && trial.energy < least) {
                least = trial.energy;
                best = paces;
            }
        }
        return what == 0 || best == NONE ? best : least;
    }

    public int costs(int person) {
        if (!isPerson(person)) {
            return BAD - LOWER;
        }
        Day told = toldDay();
        int others = told.waits - told.riders[person].countWait();
        trial.load(plan, person);
        trial.runWaits(0, NO_BOUND);
        return others - trial.waits;
    }

    public int rules() {
        return waitsByRule(0) - waitsByRule(1);
    }

    public int stood(int sheet, int lane, int i, int n) {
        int refusal = isBetween(n, 1, MOST_COUNTS) ? refuse(sheet, lane, i, n) : BAD;
        if (refusal < 0) {
            return refusal;
        }
        int found = 0;
        for (int s = 0; s < plan.stairs; s++) {
            trial.load(plan, NOBODY);
            trial.keepStanding(s);
            trial.run(0, LAST_TICK);
            if (isFilm(trial, rows[sheet], i, n)) {
                found |= 1 << s;
            }
        }
        return isFilm(toldDay(), rows[sheet], i, n) ? found | 1 << MOST_STAIRS : found;
    }

    public int image() {
        kept.copyFrom(plan);
        isKept = true;
        return 1;
    }

    public int restore() {
        if (!isKept) {
            return NONE;
        }
        plan.copyFrom(kept);
        tellAnew();
        return 1;
    }

    // ---- 4 sheets

    public int film(int sheet, int lane, int i, int n) {
        int refusal = isBetween(n, 1, MOST_COUNTS) ? refuse(sheet, lane, i, n) : BAD;
        if (refusal < 0) {
            return refusal;
        }
        Day told = toldDay();
        for (int k = 0; k < n; k++) {
            rows[sheet].put(i + k, told.countThrough(10 * k + 9));
        }
        return n;
    }

    public int sheet(int sheet, int lane, int n) {
        if (!isSheet(sheet) || !isBetween(lane, 0, LANES - 1) || n > MOST_ITEMS) {
            return BAD;
        }
        if (n < 0) {
            return SIZE;
        }
        rows[sheet].begin(lane, n);
        return n;
    }

    public int drop(int sheet) {
        if (!isSheet(sheet)) {
            return BAD;
        }
        if (!rows[sheet].isThere) {
            return NULL;
        }
        rows[sheet].isThere = false;
        return rows[sheet].size;
    }

    public int item(int sheet, int lane, int i, int v) {
        int refusal = refuse(sheet, lane, i, 1);
        if (refusal < 0) {
            return refusal;
        }
        rows[sheet].put(i, v);
        return 1;
    }

    public int copy(int from, int i, int to, int j, int n) {
        if (!isSheet(from) || !isSheet(to)) {
            return BAD;
        }
        Row source = rows[from];
        Row target = rows[to];
        if (!source.isThere || !target.isThere) {
            return NULL;
        }
        if (source.lane != target.lane) {
            return CAST;
        }
        if (!source.holds(i, n) || !target.holds(j, n)) {
            return INDEX;
        }
        System.arraycopy(source.items, i, target.items, j, n);
        return n;
    }

    // what the calls share

    private static boolean isBetween(int v, int low, int high) {
        return low <= v && v <= high;
    }

    private boolean isStair(int stair) {
        return isBetween(stair, 0, plan.stairs - 1);
    }

    private boolean isPerson(int person) {
        return isBetween(person, 0, plan.people - 1);
    }

    private static boolean isSheet(int sheet) {
        return isBetween(sheet, 0, SHEETS - 1);
    }

    private static int orNone(int number) {
        return number < 0 ? NONE : number;
    }

    private static int weightOf(int kind) {
        return isBetween(kind, STANDING, FEARING) ? WEIGHT[kind] : 0;
    }

    /** Byte k of w, of which byte 0 is the lowest. */
    private static int byteOf(long w, int k) {
        return (int) (w >> 8 * k & 255L);
    }

    /** The way of a stair among the ways of all, the digits in threes. */
    private static int wayOf(int ways, int stair) {
        return isBetween(stair, 0, MOST_STAIRS - 1) ? ways / THREES[stair] % 3 : STAND;
    }

    /** What was found out of the plan as it was does not hold any more. */
    private void tellAnew() {
        isRun = false;
        soughtTick = 0;
    }

    private Day toldDay() {
        if (!isRun) {
            day.load(plan, NOBODY);
            day.run(0, LAST_TICK);
            isRun = true;
        }
        return day;
    }

    private int waitsByRule(int rule) {
        trial.load(plan, NOBODY);
        trial.setting[RULE] = rule;
        trial.runWaits(0, NO_BOUND);
        return trial.waits;
    }

    /** Ways that stay are a change too, so no sum above theirs need be looked at. */
    private void seekChange(int tick) {
        int bound = NO_BOUND;
        for (int w = 0; w < THREES[plan.stairs]; w++) {
            trial.loadAllDay(plan, w);
            trial.runWaits(0, bound);
            bound = Math.min(bound, trial.waits);
        }
        bound++;
        for (int before = 0; before < THREES[plan.stairs]; before++) {
            morning.loadAllDay(plan, before);
            morning.run(0, tick - 1);
            for (int after = 0; after < THREES[plan.stairs] && morning.waits < bound; after++) {
                trial.copyFrom(morning);
                trial.turnAt(tick, after);
                trial.runWaits(tick, bound);
                if (trial.waits < bound) {
                    bound = trial.waits;
                    soughtBefore = before;
                    soughtAfter = after;
                }
            }
        }
        soughtSum = bound;
        soughtTick = tick;
    }

    /** Why n items of a sheet from i on can't be had as those of a lane: 0 if they can. */
    private int refuse(int sheet, int lane, int i, int n) {
        if (!isSheet(sheet) || !isBetween(lane, 0, LANES - 1)) {
            return BAD;
        }
        Row row = rows[sheet];
        if (!row.isThere) {
            return NULL;
        }
        if (row.lane != lane) {
            return CAST;
        }
        return row.holds(i, n) ? 0 : INDEX;
    }

    private static boolean isFilm(Day shown, Row row, int i, int n) {
        if (!row.holds(i, n)) {
            return false;
        }
        for (int k = 0; k < n; k++) {
            if (row.items[i + k] != shown.countThrough(10 * k + 9)) {
                return false;
            }
        }
        return true;
    }

    /** All that has been told: this is what an image keeps. */
    private static final class Plan {
        final int[][] stair = new int[3][MOST_STAIRS];
        final int[][] person = new int[3][MOST_PEOPLE];
        final int[] setting = new int[SETTING_FIRST.length];
        int stairs;
        int people;
        int changeTick;
        int changeWays;

        Plan() {
            System.arraycopy(SETTING_FIRST, 0, setting, 0, setting.length);
        }

        void copyFrom(Plan other) {
            for (int k = 0; k < 3; k++) {
                System.arraycopy(other.stair[k], 0, stair[k], 0, MOST_STAIRS);
                System.arraycopy(other.person[k], 0, person[k], 0, MOST_PEOPLE);
            }
            System.arraycopy(other.setting, 0, setting, 0, setting.length);
            stairs = other.stairs;
            people = other.people;
            changeTick = other.changeTick;
            changeWays = other.changeWays;
        }

        void addPerson(int tick, int floor, int kind) {
            if (people < MOST_PEOPLE) {
                person[TICK][people] = tick;
                person[FLOOR][people] = floor;
                person[KIND][people] = kind;
                people++;
            }
        }

        void removePerson(int number) {
            for (int p = number + 1; p < people; p++) {
                for (int k = 0; k < 3; k++) {
                    person[k][p - 1] = person[k][p];
                }
            }
            people--;
        }

        int countUp() {
            int up = 0;
            for (int p = 0; p < people; p++) {
                up += person[FLOOR][p] == 0 ? 1 : 0;
            }
            return up;
        }
    }

    /** One who comes, and what becomes of it. */
    private static final class Rider {
        int tick;
        int floor;
        int kind;
        int weight;
        int phase;
        int stair;
        int stepped;
        int landing;
        int landed;
        int through;
        boolean fell;

        Rider() {
            begin(0, 0, STANDING);
        }

        void begin(int toldTick, int toldFloor, int toldKind) {
            tick = toldTick;
            floor = toldFloor;
            kind = toldKind;
            weight = weightOf(toldKind);
            phase = AWAY;
            stair = NONE;
            stepped = NONE;
            landing = NONE;
            landed = NONE;
            through = NONE;
            fell = false;
        }

        void copyFrom(Rider other) {
            tick = other.tick;
            floor = other.floor;
            kind = other.kind;
            weight = other.weight;
            phase = other.phase;
            stair = other.stair;
            stepped = other.stepped;
            landing = other.landing;
            landed = other.landed;
            through = other.through;
            fell = other.fell;
        }

        void goThrough(int now) {
            phase = THROUGH;
            through = now;
        }

        int countWait() {
            return stepped < 0 ? TICKS - tick : stepped - tick;
        }
    }

    /** A stair on its day: who is on which place of its steps. */
    private static final class Flight {
        /** Two places a step, the right one first; a bagged one is on both. */
        final int[] spot = new int[2 * MOST_STEPS];
        int length = MOST_STEPS;
        int way;
        int pace;
        /** Ticks yet to rest, the one that goes on with them. */
        int trip;
        /** The weights of all on it together. */
        int load;

        Flight() {
            begin(MOST_STEPS, STAND, 1);
        }

        void begin(int toldLength, int toldWay, int toldPace) {
            length = Math.max(1, Math.min(toldLength, MOST_STEPS));
            way = toldWay;
            pace = toldPace;
            trip = 0;
            empty();
        }

        void copyFrom(Flight other) {
            System.arraycopy(other.spot, 0, spot, 0, spot.length);
            length = other.length;
            way = other.way;
            pace = other.pace;
            trip = other.trip;
            load = other.load;
        }

        boolean moves() {
            return way != STAND && trip == 0;
        }

        int startFloor() {
            return way == 2 ? 1 : 0;
        }

        int endFloor() {
            return way == 2 ? 0 : 1;
        }

        int who(int step, int place) {
            return 0 <= step && step < length && RIGHT <= place && place <= LEFT ? spot[2 * step + place] : NOBODY;
        }

        void put(int step, int place, int person) {
            if (0 <= step && step < length && RIGHT <= place && place <= LEFT) {
                spot[2 * step + place] = person;
            }
        }

        void empty() {
            Arrays.fill(spot, NOBODY);
            load = 0;
        }

        int countOnLastStep() {
            int right = who(length - 1, RIGHT);
            int left = who(length - 1, LEFT);
            int some = right < 0 ? 0 : 1;
            return left < 0 || left == right ? some : some + 1;
        }

        /** All but those on the last step, who are told to have left it. */
        void goOneStep() {
            System.arraycopy(spot, 0, spot, 2, 2 * (length - 1));
            spot[RIGHT] = NOBODY;
            spot[LEFT] = NOBODY;
        }

        void turnRound() {
            for (int low = 0, high = length - 1; low < high; low++, high--) {
                for (int place = RIGHT; place <= LEFT; place++) {
                    int person = who(low, place);
                    put(low, place, who(high, place));
                    put(high, place, person);
                }
            }
        }
    }

    /** A day of a plan, run tick by tick as far as one likes. */
    private static final class Day {
        final Rider[] riders = new Rider[MOST_PEOPLE];
        final Flight[] flights = new Flight[MOST_STAIRS];
        final int[] setting = new int[SETTING_FIRST.length];
        /** Those who come, by tick and number: the order of all waiting. */
        final int[] line = new int[MOST_PEOPLE];
        /** How many are on the landing of each floor. */
        final int[] crowd = new int[2];
        int stairs;
        int people;
        int coming;
        int arrived;
        int waiting;
        int turnTick;
        int turnWays;
        int waits;
        int energy;
        int jams;
        int trips;

        Day() {
            for (int p = 0; p < MOST_PEOPLE; p++) {
                riders[p] = new Rider();
            }
            for (int s = 0; s < MOST_STAIRS; s++) {
                flights[s] = new Flight();
            }
        }

        /** Ahead of tick 0; the one that is absent does not come. */
        void load(Plan plan, int absent) {
            System.arraycopy(plan.setting, 0, setting, 0, setting.length);
            Arrays.fill(crowd, 0);
            stairs = plan.stairs;
            people = plan.people;
            coming = 0;
            arrived = 0;
            waiting = 0;
            waits = 0;
            energy = 0;
            jams = 0;
            trips = 0;
            turnAt(plan.changeTick, plan.changeWays);
            for (int s = 0; s < stairs; s++) {
                flights[s].begin(plan.stair[LENGTH][s], plan.stair[WAY][s], plan.stair[PACE][s]);
            }
            for (int p = 0; p < people; p++) {
                riders[p].begin(plan.person[TICK][p], plan.person[FLOOR][p], plan.person[KIND][p]);
                if (p != absent) {
                    lineUp(p);
                }
            }
        }

        private void lineUp(int person) {
            int k = coming;
            while (k > 0 && riders[line[k - 1]].tick > riders[person].tick) {
                line[k] = line[k - 1];
                k--;
            }
            line[k] = person;
            coming++;
        }

        void copyFrom(Day other) {
            System.arraycopy(other.setting, 0, setting, 0, setting.length);
            System.arraycopy(other.line, 0, line, 0, line.length);
            System.arraycopy(other.crowd, 0, crowd, 0, crowd.length);
            stairs = other.stairs;
            people = other.people;
            coming = other.coming;
            arrived = other.arrived;
            waiting = other.waiting;
            turnTick = other.turnTick;
            turnWays = other.turnWays;
            waits = other.waits;
            energy = other.energy;
            jams = other.jams;
            trips = other.trips;
            for (int s = 0; s < stairs; s++) {
                flights[s].copyFrom(other.flights[s]);
            }
            for (int p = 0; p < people; p++) {
                riders[p].copyFrom(other.riders[p]);
            }
        }

        /** All come, and these ways stay: no change. */
        void loadAllDay(Plan plan, int ways) {
            load(plan, NOBODY);
            turnAt(0, 0);
            for (int s = 0; s < stairs; s++) {
                flights[s].way = wayOf(ways, s);
            }
        }

        void setPaces(int paces) {
            for (int s = 0; s < stairs; s++) {
                flights[s].pace = 1 + (paces >> s & 1);
            }
        }

        /** By tick 0 the ways stay all day. */
        void turnAt(int tick, int ways) {
            turnTick = tick;
            turnWays = ways;
        }

        /** All day: behind a change, too. */
        void keepStanding(int stair) {
            if (isBetween(stair, 0, stairs - 1)) {
                flights[stair].way = STAND;
                turnWays -= wayOf(turnWays, stair) * THREES[stair];
            }
        }

        void run(int from, int to) {
            for (int now = from; now <= to; now++) {
                passTick(now);
            }
        }

        /** No farther than the sum of waits wants it: up to the bound, or till nobody is left who could wait. */
        void runWaits(int from, int bound) {
            boolean isOpen = true;
            for (int now = from; now <= LAST_TICK && isOpen; now++) {
                passTick(now);
                isOpen = waits < bound && (waiting > 0 || arrived < coming);
            }
        }

        private void passTick(int now) {
            arrive(now);
            if (turnTick > 0 && now == turnTick) {
                turn(now);
            }
            for (int s = 0; s < stairs; s++) {
                if (flights[s].moves() && flights[s].load > 0) {
                    advance(flights[s], now);
                }
            }
            leave(0, now);
            leave(1, now);
            for (int s = 0; s < stairs; s++) {
                if (flights[s].moves() && waiting > 0) {
                    board(s, now);
                }
            }
            for (int s = 0; s < stairs; s++) {
                weigh(s);
            }
            waits += waiting;
        }

        private void arrive(int now) {
            while (arrived < coming && riders[line[arrived]].tick == now) {
                riders[line[arrived]].phase = WAITS;
                arrived++;
                waiting++;
            }
        }

        private void turn(int now) {
            for (int s = 0; s < stairs; s++) {
                Flight flight = flights[s];
                int way = wayOf(turnWays, s);
                if (way == STAND) {
                    letAllThrough(s, now);
                } else if (way != flight.way) {
                    flight.turnRound();
                }
                flight.way = way;
            }
        }

        private void letAllThrough(int stair, int now) {
            for (int p = 0; p < people; p++) {
                if (riders[p].phase == RIDES && riders[p].stair == stair) {
                    riders[p].goThrough(now);
                }
            }
            flights[stair].empty();
        }

        private void advance(Flight flight, int now) {
            int floor = flight.endFloor();
            boolean jammed = false;
            for (int k = 0; k < flight.pace && !jammed; k++) {
                if (flight.countOnLastStep() > setting[ROOM] - crowd[floor]) {
                    jammed = true;
                    jams++;
                } else {
                    land(flight, RIGHT, now);
                    land(flight, LEFT, now);
                    flight.goOneStep();
                }
            }
            walk(flight);
        }

        private void land(Flight flight, int place, int now) {
            int person = flight.who(flight.length - 1, place);
            // a bagged one is met on both places, but lands once
            if (person >= 0 && riders[person].phase == RIDES) {
                Rider rider = riders[person];
                rider.phase = LANDED;
                rider.landed = now;
                rider.landing = flight.endFloor();
                crowd[rider.landing]++;
                flight.load -= rider.weight;
            }
        }

        private void walk(Flight flight) {
            for (int step = flight.length - 2; step >= 0; step--) {
                int person = flight.who(step, LEFT);
                if (person >= 0 && riders[person].kind == WALKING && flight.who(step + 1, LEFT) < 0) {
                    flight.put(step, LEFT, NOBODY);
                    flight.put(step + 1, LEFT, person);
                }
            }
        }

        private void leave(int floor, int now) {
            for (int k = 0; k < setting[LEAVE] && crowd[floor] > 0; k++) {
                int first = firstOnLanding(floor);
                if (first >= 0) {
                    riders[first].goThrough(now);
                    crowd[floor]--;
                }
            }
        }

        private int firstOnLanding(int floor) {
            int first = NOBODY;
            for (int p = 0; p < people; p++) {
                if (riders[p].phase == LANDED && riders[p].landing == floor
                        && (first < 0 || riders[p].landed < riders[first].landed)) {
                    first = p;
                }
            }
            return first;
        }

        private void board(int stair, int now) {
            Flight flight = flights[stair];
            for (int place = RIGHT; place <= LEFT; place++) {
                int person = flight.who(0, place) < 0 ? firstToBoard(flight, place) : NOBODY;
                if (person >= 0) {
                    Rider rider = riders[person];
                    rider.phase = RIDES;
                    rider.stair = stair;
                    rider.stepped = now;
                    waiting--;
                    flight.load += rider.weight;
                    flight.put(0, place, person);
                    if (rider.kind == BAGGED) {
                        flight.put(0, LEFT, person);
                    }
                }
            }
        }

        private int firstToBoard(Flight flight, int place) {
            int floor = flight.startFloor();
            for (int k = 0; k < arrived; k++) {
                Rider rider = riders[line[k]];
                if (rider.phase == WAITS && rider.floor == floor && mayBoard(rider.kind, flight, place)) {
                    return line[k];
                }
            }
            return NOBODY;
        }

        /** Of one for whom this place is free and whose floor this is. */
        private boolean mayBoard(int kind, Flight flight, int place) {
            if (kind == BAGGED) {
                return place == RIGHT && flight.spot[LEFT] < 0;
            }
            if (setting[RULE] == 1 && (kind == WALKING) != (place == LEFT)) {
                return false;
            }
            if (kind == FEARING) {
                return flight.pace == 1;
            }
            boolean may = kind != CHILD;
            // the first four spots are steps 0 and 1: for a child some grown one must be there
            for (int k = 0; k < 4 && !may; k++) {
                int person = flight.spot[k];
                may = person >= 0 && riders[person].kind != CHILD;
            }
            return may;
        }

        private void weigh(int stair) {
            Flight flight = flights[stair];
            if (flight.moves()) {
                int back = flight.way == 2 ? flight.load * setting[BACK] / 10 : -flight.load;
                energy += Math.max(0, setting[BASE] - back);
            }
            if (flight.trip > 0) {
                flight.trip--;
            } else if (flight.load > setting[LIMIT]) {
                flight.trip = setting[REST];
                trips++;
                if (flight.pace == 2) {
                    letWalkersFall(stair);
                }
            }
        }

        private void letWalkersFall(int stair) {
            for (int p = 0; p < people; p++) {
                Rider rider = riders[p];
                if (rider.phase == RIDES && rider.stair == stair && rider.kind == WALKING) {
                    rider.kind = STANDING;
                    rider.fell = true;
                }
            }
        }

        int setOf(int phase) {
            int found = 0;
            for (int p = 0; p < people; p++) {
                found |= riders[p].phase == phase ? 1 << p : 0;
            }
            return found;
        }

        int setOfFallen() {
            int found = 0;
            for (int p = 0; p < people; p++) {
                found |= riders[p].fell ? 1 << p : 0;
            }
            return found;
        }

        int tripDigits() {
            int digits = 0;
            for (int s = 0; s < stairs; s++) {
                digits += flights[s].trip * TENS[s];
            }
            return digits;
        }

        int countThrough(int by) {
            int found = 0;
            for (int p = 0; p < people; p++) {
                found += riders[p].phase == THROUGH && riders[p].through <= by ? 1 : 0;
            }
            return found;
        }

        /** A tick behind the last one if not all are through. */
        int lastThrough() {
            int last = 0;
            for (int p = 0; p < people; p++) {
                last = Math.max(last, riders[p].phase == THROUGH ? riders[p].through : TICKS);
            }
            return last;
        }
    }

    /** What was typed, and the people that it is. */
    private static final class Tape {
        final int[] bytes = new int[MOST_BYTES];
        int length;
        final int[][] person = new int[3][MOST_TOLD];
        int found;
        private int place;

        Tape() {
            length = 0;
        }

        void add(int b) {
            if (length < MOST_BYTES) {
                bytes[length] = b;
                length++;
            }
        }

        /** 0, or the fault; so many as are found are people. */
        int parse() {
            place = 0;
            found = 0;
            for (int k = 0; k < MOST_TOLD; k++) {
                int fault = parsePerson(k);
                if (fault < 0) {
                    return fault;
                }
                found = k + 1;
                int next = nextByte();
                if (next < 0) {
                    return 0;
                }
                if (next != ';' || found == MOST_TOLD) {
                    return FIRST_FAULT - place;
                }
                place++;
            }
            return 0;
        }

        private int parsePerson(int k) {
            nextByte();
            int first = place;
            int tick = parseNumber();
            if (!isBetween(tick, 0, LAST_TICK)) {
                return FIRST_FAULT - first;
            }
            int floor = "ud".indexOf((char) nextLetter());
            if (floor < 0) {
                return FIRST_FAULT - place;
            }
            place++;
            int kind = "swbcf".indexOf((char) nextLetter());
            if (kind < 0) {
                return FIRST_FAULT - place;
            }
            place++;
            person[TICK][k] = tick;
            person[FLOOR][k] = floor;
            person[KIND][k] = kind;
            return 0;
        }

        /** Below 0: there is none here; what is too great stays so without end. */
        private int parseNumber() {
            int value = -1;
            while (place < length && isBetween(bytes[place], '0', '9')) {
                value = Math.min(TICKS, Math.max(0, value) * 10 + bytes[place] - '0');
                place++;
            }
            return value;
        }

        /** The byte behind blanks, which stays to be taken; below 0: the end. */
        private int nextByte() {
            while (place < length && bytes[place] == ' ') {
                place++;
            }
            return place < length ? bytes[place] : -1;
        }

        /** Like nextByte; 0, which no text holds, for the end. */
        private int nextLetter() {
            return Math.max(0, nextByte());
        }
    }

    /** A sheet; while nothing is there, its row rests for the next one. */
    private static final class Row {
        final int[] items = new int[MOST_ITEMS];
        boolean isThere;
        int lane;
        int size;

        Row() {
            isThere = false;
        }

        void begin(int newLane, int newSize) {
            isThere = true;
            lane = newLane;
            size = newSize;
            Arrays.fill(items, 0);
        }

        /** Whether there are n items from i on: i may stand just behind all if none is taken. */
        boolean holds(int i, int n) {
            return i >= 0 && i <= size && n >= 0 && n <= size - i;
        }

        void put(int i, int v) {
            if (isBetween(i, 0, size - 1)) {
                items[i] = lane == 0 ? (byte) v : lane == 1 ? (short) v : v;
            }
        }
    }
}
