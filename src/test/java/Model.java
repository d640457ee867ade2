import java.util.ArrayList;
import java.util.Arrays;
import java.util.List;

/**
 * The document once more, written as plainly as it reads and with no care for speed: each call runs all days anew,
 * and people know where they are instead of steps knowing who is on them. RandomRunsTest holds the class against it.
 */
final class Model {
    static final class Stair {
        int length, way, pace, rest;

        Stair(int length, int way, int pace) {
            this.length = length;
            this.way = way;
            this.pace = pace;
        }
    }

    static final class Person {
        final int tick, floor, toldKind;
        int number, kind;
        String where = "away";
        int stair = -4, step, place, stepped = -4, landing, landed, through = -4;
        boolean fell;

        Person(int tick, int floor, int kind) {
            this.tick = tick;
            this.floor = floor;
            this.toldKind = kind;
            this.kind = kind;
        }

        int weight() {
            return toldKind == 2 ? 4 : toldKind == 3 ? 1 : 2;
        }

        boolean isOn(int aStair, int aStep, int aPlace) {
            return where.equals("rides") && stair == aStair && step == aStep && (place == aPlace || kind == 2);
        }

        int wait(int none) {
            return stepped >= 0 ? stepped - tick : none - tick;
        }
    }

    /** All that an image keeps. */
    static final class Told {
        List<Stair> stairs = new ArrayList<>();
        List<Person> people = new ArrayList<>();
        int[] settings = {1, 4, 2, 12, 3, 2, 5};
        int changeTick, changeWays;

        Told copy() {
            Told t = new Told();
            for (Stair s : stairs) {
                t.stairs.add(new Stair(s.length, s.way, s.pace));
            }
            for (Person p : people) {
                t.people.add(new Person(p.tick, p.floor, p.toldKind));
            }
            t.settings = settings.clone();
            t.changeTick = changeTick;
            t.changeWays = changeWays;
            return t;
        }
    }

    /** A day, run up to a tick. */
    static final class Day {
        final List<Stair> stairs;
        final List<Person> people;
        final int[] set;
        int energy, jams, trips;

        Day(Told toldOnce, int last) {
            Told told = toldOnce.copy();
            stairs = told.stairs;
            people = told.people;
            set = told.settings;
            for (int i = 0; i < people.size(); i++) {
                people.get(i).number = i;
            }
            for (int t = 0; t <= last; t++) {
                for (Person p : people) {
                    if (p.tick == t) {
                        p.where = "waits";
                    }
                }
                if (told.changeTick == t && t > 0) {
                    change(told.changeWays, t);
                }
                for (int s = 0; s < stairs.size(); s++) {
                    if (goes(s)) {
                        go(s, t);
                    }
                }
                for (int floor = 0; floor < 2; floor++) {
                    for (int k = 0; k < set[2]; k++) {
                        letOneGo(floor, t);
                    }
                }
                for (int s = 0; s < stairs.size(); s++) {
                    if (goes(s)) {
                        stepOn(s, 0, t);
                        stepOn(s, 1, t);
                    }
                }
                for (int s = 0; s < stairs.size(); s++) {
                    weigh(s);
                }
            }
        }

        boolean goes(int s) {
            return stairs.get(s).way > 0 && stairs.get(s).rest == 0;
        }

        Person who(int stair, int step, int place) {
            for (Person p : people) {
                if (p.isOn(stair, step, place)) {
                    return p;
                }
            }
            return null;
        }

        List<Person> riding(int s) {
            List<Person> found = new ArrayList<>();
            for (Person p : people) {
                if (p.where.equals("rides") && p.stair == s) {
                    found.add(p);
                }
            }
            return found;
        }

        List<Person> on(int floor) {
            List<Person> found = new ArrayList<>();
            for (Person p : people) {
                if (p.where.equals("landed") && p.landing == floor) {
                    found.add(p);
                }
            }
            found.sort((a, b) -> a.landed != b.landed ? a.landed - b.landed : a.number - b.number);
            return found;
        }

        void change(int ways, int t) {
            for (int s = 0; s < stairs.size(); s++) {
                Stair stair = stairs.get(s);
                int way = s == 0 ? ways % 3 : s == 1 ? ways / 3 % 3 : ways / 9;
                for (Person p : riding(s)) {
                    if (way == 0) {
                        p.where = "through";
                        p.through = t;
                    } else if (way != stair.way) {
                        p.step = stair.length - 1 - p.step;
                    }
                }
                stair.way = way;
            }
        }

        void go(int s, int t) {
            Stair stair = stairs.get(s);
            int floor = stair.way == 1 ? 1 : 0;
            for (int k = 0; k < stair.pace; k++) {
                List<Person> last = new ArrayList<>();
                for (Person p : riding(s)) {
                    if (p.step == stair.length - 1) {
                        last.add(p);
                    }
                }
                if (last.size() > set[1] - on(floor).size()) {
                    jams++;
                    break;
                }
                for (Person p : riding(s)) {
                    p.step++;
                }
                for (Person p : last) {
                    p.where = "landed";
                    p.landing = floor;
                    p.landed = t;
                }
            }
            for (int step = stair.length - 2; step >= 0; step--) {
                Person p = who(s, step, 1);
                if (p != null && p.kind == 1 && who(s, step + 1, 1) == null) {
                    p.step++;
                }
            }
        }

        void letOneGo(int floor, int t) {
            List<Person> there = on(floor);
            if (!there.isEmpty()) {
                there.get(0).where = "through";
                there.get(0).through = t;
            }
        }

        void stepOn(int s, int place, int t) {
            if (who(s, 0, place) != null) {
                return;
            }
            Stair stair = stairs.get(s);
            List<Person> waiting = new ArrayList<>();
            for (Person p : people) {
                if (p.where.equals("waits") && p.floor == (stair.way == 1 ? 0 : 1)) {
                    waiting.add(p);
                }
            }
            waiting.sort((a, b) -> a.tick != b.tick ? a.tick - b.tick : a.number - b.number);
            for (Person p : waiting) {
                if (may(p, s, place)) {
                    p.where = "rides";
                    p.stair = s;
                    p.step = 0;
                    p.place = place;
                    p.stepped = t;
                    return;
                }
            }
        }

        boolean may(Person p, int s, int place) {
            boolean byRule = set[0] == 0 || (p.kind == 1 ? place == 1 : place == 0);
            switch (p.kind) {
                case 2:
                    return place == 0 && who(s, 0, 0) == null && who(s, 0, 1) == null;
                case 3:
                    boolean grown = false;
                    for (Person q : riding(s)) {
                        grown |= q.kind != 3 && q.step <= 1;
                    }
                    return byRule && grown;
                case 4:
                    return byRule && stairs.get(s).pace == 1;
                default:
                    return byRule;
            }
        }

        void weigh(int s) {
            Stair stair = stairs.get(s);
            int weights = 0;
            for (Person p : riding(s)) {
                weights += p.weight();
            }
            boolean wasTripped = stair.rest > 0;
            if (stair.way == 1 && !wasTripped) {
                energy += set[5] + weights;
            }
            if (stair.way == 2 && !wasTripped) {
                energy += Math.max(0, set[5] - weights * set[6] / 10);
            }
            if (wasTripped) {
                stair.rest--;
            } else if (weights > set[3]) {
                stair.rest = set[4];
                trips++;
                for (Person p : riding(s)) {
                    if (stair.pace == 2 && p.kind == 1) {
                        p.kind = 0;
                        p.fell = true;
                    }
                }
            }
        }

        int waits() {
            int sum = 0;
            for (Person p : people) {
                sum += p.wait(100);
            }
            return sum;
        }

        int set(String where) {
            int bits = 0;
            for (Person p : people) {
                bits |= p.where.equals(where) ? 1 << p.number : 0;
            }
            return bits;
        }

        int throughBy(int tick) {
            int n = 0;
            for (Person p : people) {
                n += p.through >= 0 && p.through <= tick ? 1 : 0;
            }
            return n;
        }

        int last() {
            int last = 0;
            for (Person p : people) {
                last = Math.max(last, p.through < 0 ? 100 : p.through);
            }
            return last;
        }
    }

    Told told = new Told();
    Told image;
    String tape = "";
    final int[][] sheets = new int[4][];
    final int[] lanes = new int[4];

    static boolean in(int v, int low, int high) {
        return v >= low && v <= high;
    }

    boolean isStair(int s) {
        return in(s, 0, told.stairs.size() - 1);
    }

    boolean isPerson(int p) {
        return in(p, 0, told.people.size() - 1);
    }

    Day day() {
        return new Day(told, 99);
    }

    int stair(int length, int pace) {
        if (!in(length, 3, 10) || !in(pace, 1, 2)) return -1;
        if (told.stairs.size() == 3) return -3;
        told.stairs.add(new Stair(length, 0, pace));
        return told.stairs.size() - 1;
    }

    int of(int stair, int what, int v) {
        if (!isStair(stair)) return -1;
        Stair s = told.stairs.get(stair);
        int was;
        if (what == 0 && in(v, 3, 10)) {
            was = s.length;
            s.length = v;
        } else if (what == 1 && in(v, 0, 2)) {
            was = s.way;
            s.way = v;
        } else if (what == 2 && in(v, 1, 2)) {
            was = s.pace;
            s.pace = v;
        } else {
            return -1;
        }
        return was;
    }

    int set(int what, int v) {
        String[] ranges = {"0 1", "1 9", "1 3", "2 40", "1 9", "0 9", "0 10"};
        if (!in(what, 0, 6)) return -1;
        String[] range = ranges[what].split(" ");
        if (!in(v, Integer.parseInt(range[0]), Integer.parseInt(range[1]))) return -1;
        int was = told.settings[what];
        told.settings[what] = v;
        return was;
    }

    int change(int tick, int ways) {
        if (!in(tick, 0, 99) || !in(ways, 0, 26)) return -1;
        int was = told.changeTick;
        told.changeTick = tick;
        told.changeWays = ways;
        return was;
    }

    int person(int tick, int floor, int kind) {
        if (!in(tick, 0, 99) || !in(floor, 0, 1) || !in(kind, 0, 4)) return -1;
        if (told.people.size() == 14) return -3;
        told.people.add(new Person(tick, floor, kind));
        return told.people.size() - 1;
    }

    int told(int person, int what) {
        if (!isPerson(person)) return -1;
        Person p = told.people.get(person);
        return what == 0 ? p.tick : what == 1 ? p.floor : what == 2 ? p.toldKind : what == 3 ? p.weight() : -1;
    }

    int strike(int person) {
        if (!isPerson(person)) return -1;
        told.people.remove(person);
        return told.people.size();
    }

    int type(long w, int n) {
        if (!in(n, 1, 8)) return -1;
        String more = "";
        for (int k = 0; k < n; k++) {
            int b = (int) (w >>> 8 * k) & 255;
            if (!in(b, 32, 126)) return -1;
            more = (char) b + more;
        }
        if (tape.length() + n > 80) return -3;
        tape += more;
        return tape.length();
    }

    /** State by state over the bytes, each of which either fits into the state or is the fault. */
    int people() {
        String text = tape;
        tape = "";
        List<Person> found = new ArrayList<>();
        char state = 'n';
        int tick = 0, first = 0, floor = 0;
        boolean blank = false;
        for (int i = 0; i < text.length(); i++) {
            char b = text.charAt(i);
            if (b == ' ') {
                if (state == 'd') state = 'f';
                continue;
            }
            boolean digit = b >= '0' && b <= '9';
            if (state == 'd' && !digit) state = 'f';
            if (state == 'n' && digit) {
                state = 'd';
                tick = b - '0';
                first = i;
            } else if (state == 'd') {
                tick = tick * 10 + b - '0';
                if (tick > 99) return -20 - first;
            } else if (state == 'f' && (b == 'u' || b == 'd')) {
                floor = b == 'u' ? 0 : 1;
                state = 'k';
            } else if (state == 'k' && "swbcf".indexOf(b) >= 0) {
                found.add(new Person(tick, floor, "swbcf".indexOf(b)));
                state = ';';
            } else if (state == ';' && b == ';' && found.size() < 8) {
                state = 'n';
            } else {
                return -20 - i;
            }
        }
        if (state != ';') return -20 - text.length();
        if (told.people.size() + found.size() > 14) return -3;
        told.people.addAll(found);
        return found.size();
    }

    int count(int what) {
        int up = 0;
        for (Person p : told.people) {
            up += p.floor == 0 ? 1 : 0;
        }
        return what == 0 ? told.stairs.size() : what == 1 ? told.people.size() : what == 2 ? up : -1;
    }

    int fate(int person, int what) {
        if (!isPerson(person) || !in(what, 0, 4)) return -1;
        Person p = day().people.get(person);
        return new int[] {p.stepped, p.stair, p.through, p.wait(100), p.fell ? 1 : 0}[what];
    }

    int at(int tick, int what) {
        if (!in(tick, 0, 99) || !in(what, 0, 4)) return -1;
        Day d = new Day(told, tick);
        if (what < 4) {
            return d.set(new String[] {"waits", "landed", "rides", "through"}[what]);
        }
        int digits = 0;
        for (int s = d.stairs.size() - 1; s >= 0; s--) {
            digits = digits * 10 + d.stairs.get(s).rest;
        }
        return digits;
    }

    int on(int tick, int stair, int step, int place) {
        if (!in(tick, 0, 99) || !isStair(stair) || !in(place, 0, 1)) return -1;
        if (!in(step, 0, told.stairs.get(stair).length - 1)) return -1;
        Person p = new Day(told, tick).who(stair, step, place);
        return p == null ? -4 : p.number;
    }

    int all(int what) {
        if (!in(what, 0, 6)) return -1;
        Day d = day();
        int fell = 0;
        for (Person p : d.people) {
            fell |= p.fell ? 1 << p.number : 0;
        }
        return new int[] {d.waits(), d.energy, d.jams, d.trips, fell, d.throughBy(99), d.last()}[what];
    }

    /** Ways before, ways from a tick on (tick 0: none). */
    int waitsBy(int before, int tick, int after) {
        Told t = told.copy();
        int rest = before;
        for (Stair s : t.stairs) {
            s.way = rest % 3;
            rest /= 3;
        }
        t.changeTick = tick;
        t.changeWays = after;
        return new Day(t, 99).waits();
    }

    int ways(int what) {
        if (!in(what, 0, 1)) return -1;
        if (told.stairs.isEmpty()) return -2;
        int best = 0;
        int least = Integer.MAX_VALUE;
        for (int w = 0; w < 27; w++) {
            int sum = waitsBy(w, 0, 0);
            if (sum < least) {
                least = sum;
                best = w;
            }
        }
        return what == 0 ? best : least;
    }

    int best(int tick, int what) {
        if (!in(tick, 1, 99) || !in(what, 0, 2)) return -1;
        if (told.stairs.isEmpty()) return -2;
        // digits of stairs that are not there change nothing, so the least has none of them
        int all = new int[] {1, 3, 9, 27}[told.stairs.size()];
        int[] best = {0, 0, Integer.MAX_VALUE};
        for (int before = 0; before < all; before++) {
            for (int after = 0; after < all; after++) {
                int sum = waitsBy(before, tick, after);
                if (sum < best[2]) {
                    best = new int[] {before, after, sum};
                }
            }
        }
        return best[what];
    }

    int thrift(int tick, int what) {
        if (!in(tick, 0, 99) || !in(what, 0, 1)) return -1;
        if (told.stairs.isEmpty()) return -2;
        int best = -4;
        int least = -4;
        for (int paces = 0; paces < 8; paces++) {
            Told t = told.copy();
            for (int s = 0; s < t.stairs.size(); s++) {
                t.stairs.get(s).pace = (paces >> s) % 2 + 1;
            }
            Day d = new Day(t, 99);
            if (d.throughBy(tick) == d.people.size() && (best < 0 || d.energy < least)) {
                best = paces;
                least = d.energy;
            }
        }
        return what == 0 ? best : least;
    }

    int costs(int person) {
        if (!isPerson(person)) return -100001;
        Day all = day();
        Told t = told.copy();
        t.people.remove(person);
        return all.waits() - all.people.get(person).wait(100) - new Day(t, 99).waits();
    }

    int rules() {
        int[] sums = new int[2];
        for (int rule = 0; rule < 2; rule++) {
            Told t = told.copy();
            t.settings[0] = rule;
            sums[rule] = new Day(t, 99).waits();
        }
        return sums[0] - sums[1];
    }

    int refuse(int sheet, int lane, int i, int n) {
        if (!in(sheet, 0, 3) || !in(lane, 0, 2)) return -1;
        if (sheets[sheet] == null) return -11;
        if (lanes[sheet] != lane) return -12;
        if (i < 0 || (long) i + n > sheets[sheet].length) return -13;
        return 0;
    }

    static int[] counts(Day d, int n) {
        int[] row = new int[n];
        for (int k = 0; k < n; k++) {
            row[k] = d.throughBy(9 + 10 * k);
        }
        return row;
    }

    int stood(int sheet, int lane, int i, int n) {
        int refusal = in(n, 1, 10) ? refuse(sheet, lane, i, n) : -1;
        if (refusal < 0) return refusal;
        int[] row = Arrays.copyOfRange(sheets[sheet], i, i + n);
        int bits = Arrays.equals(row, counts(day(), n)) ? 8 : 0;
        for (int s = 0; s < told.stairs.size(); s++) {
            Told t = told.copy();
            t.stairs.get(s).way = 0;
            int[] digits = {t.changeWays % 3, t.changeWays / 3 % 3, t.changeWays / 9};
            digits[s] = 0;
            t.changeWays = digits[0] + 3 * digits[1] + 9 * digits[2];
            bits |= Arrays.equals(row, counts(new Day(t, 99), n)) ? 1 << s : 0;
        }
        return bits;
    }

    int image() {
        image = told.copy();
        return 1;
    }

    int restore() {
        if (image == null) return -4;
        told = image.copy();
        return 1;
    }

    int film(int sheet, int lane, int i, int n) {
        int refusal = in(n, 1, 10) ? refuse(sheet, lane, i, n) : -1;
        if (refusal < 0) return refusal;
        System.arraycopy(counts(day(), n), 0, sheets[sheet], i, n);
        return n;
    }

    int sheet(int sheet, int lane, int n) {
        if (!in(sheet, 0, 3) || !in(lane, 0, 2) || n > 16) return -1;
        if (n < 0) return -14;
        sheets[sheet] = new int[n];
        lanes[sheet] = lane;
        return n;
    }

    int drop(int sheet) {
        if (!in(sheet, 0, 3)) return -1;
        if (sheets[sheet] == null) return -11;
        int n = sheets[sheet].length;
        sheets[sheet] = null;
        return n;
    }

    int item(int sheet, int lane, int i, int v) {
        int refusal = refuse(sheet, lane, i, 1);
        if (refusal < 0) return refusal;
        sheets[sheet][i] = lane == 0 ? (byte) v : lane == 1 ? (short) v : v;
        return 1;
    }

    int copy(int from, int i, int to, int j, int n) {
        if (!in(from, 0, 3) || !in(to, 0, 3)) return -1;
        if (sheets[from] == null || sheets[to] == null) return -11;
        if (lanes[from] != lanes[to]) return -12;
        if (i < 0 || j < 0 || n < 0) return -13;
        if ((long) i + n > sheets[from].length || (long) j + n > sheets[to].length) return -13;
        int[] taken = Arrays.copyOfRange(sheets[from], i, i + n);
        System.arraycopy(taken, 0, sheets[to], j, n);
        return n;
    }
}
