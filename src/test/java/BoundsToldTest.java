/** Each sentence about stairs, settings and people that names a boundary: the part ==== 1, promises 1 to 8 and 11. */
final class BoundsToldTest {
    private static final int MIN = Integer.MIN_VALUE, MAX = Integer.MAX_VALUE;
    private static Check c;

    public static void main(String[] args) {
        c = new Check("BoundsToldTest");
        newObject();
        stairs();
        lengths();
        waysAndPaces();
        steps();
        settings();
        settingsAtFirst();
        people();
        kinds();
        ofAndSet();
        change();
        personAndTold();
        strike();
        count();
        c.end();
    }

    private static StairsThatGo full() {
        StairsThatGo x = new StairsThatGo();
        for (int k = 0; k < 3; k++) {
            x.stair(3, 1);
        }
        for (int k = 0; k < 14; k++) {
            x.person(k, k % 2, k % 5);
        }
        return x;
    }

    private static void newObject() {
        c.sentence("No STAIRS, nobody.");
        StairsThatGo x = new StairsThatGo();
        c.due("count(0)", x.count(0), 0);
        c.due("count(1)", x.count(1), 0);
        c.due("count(2)", x.count(2), 0);
        c.due("of(0, 0, 3)", x.of(0, 0, 3), -1);
        c.due("on(0, 0, 0, 0)", x.on(0, 0, 0, 0), -1);
        c.due("told(0, 0)", x.told(0, 0), -1);
        c.due("strike(0)", x.strike(0), -1);
        c.due("fate(0, 0)", x.fate(0, 0), -1);
        c.due("costs(0)", x.costs(0), -100001);
        c.due("at(0, 0)", x.at(0, 0), 0);
        c.due("at(99, 4)", x.at(99, 4), 0);
        for (int what = 0; what <= 6; what++) {
            c.due("all(" + what + ")", x.all(what), 0);
        }
        c.due("rules()", x.rules(), 0);
        c.due("change(0, 0)", x.change(0, 0), 0);
        c.due("restore()", x.restore(), -4);
        c.due("people()", x.people(), -20);
    }

    private static void stairs() {
        c.sentence("STAIRS 0 .. 2, as they come");
        StairsThatGo x = new StairsThatGo();
        for (int s = 0; s <= 2; s++) {
            c.due("of(" + s + ") ahead of it", x.of(s, 0, 3), -1);
            c.due("stair " + s, x.stair(3 + s, 1), s);
            c.due("of(" + s + ")", x.of(s, 0, 3 + s), 3 + s);
        }
        c.sentence("A STAIR that stands: its number. BAD; FULL: 3.");
        c.due("a fourth", x.stair(3, 1), -3);
        c.due("a fourth", x.stair(10, 2), -3);
        c.due("count(0)", x.count(0), 3);
        for (int s = 0; s <= 2; s++) {
            c.due("way of " + s, x.of(s, 1, 0), 0);
            c.due("length of " + s, x.of(s, 0, 3), 3 + s);
            c.due("pace of " + s, x.of(s, 2, 1), 1);
        }
    }

    private static void lengths() {
        c.sentence("have a LENGTH of STEPS (3 .. 10)");
        StairsThatGo x = new StairsThatGo();
        c.refused("stair(length, 1)", -1, 3, 10, length -> x.stair(length, 1));
        c.due("none of these is there", x.count(0), 0);
        for (int length = 3; length <= 10; length++) {
            c.due("stair(" + length + ", 1)", new StairsThatGo().stair(length, 1), 0);
        }
        c.due("the shortest", x.stair(3, 1), 0);
        c.refused("of(0, 0, length)", -1, 3, 10, length -> x.of(0, 0, length));
        c.due("the longest", x.of(0, 0, 10), 3);
        c.due("the shortest again", x.of(0, 0, 3), 10);
    }

    private static void waysAndPaces() {
        c.sentence("GO a WAY (0 stand, 1 up, 2 down)");
        StairsThatGo x = new StairsThatGo();
        x.stair(3, 1);
        c.refused("of(0, 1, way)", -1, 0, 2, way -> x.of(0, 1, way));
        c.due("down", x.of(0, 1, 2), 0);
        c.due("up", x.of(0, 1, 1), 2);
        c.due("stand", x.of(0, 1, 0), 1);
        x.person(0, 0, 0);
        x.person(0, 1, 0);
        int[][] stepped = {{-4, -4}, {0, -4}, {-4, 0}};
        for (int way = 0; way <= 2; way++) {
            x.of(0, 1, way);
            c.due("by way " + way + " who wants up", x.fate(0, 0), stepped[way][0]);
            c.due("by way " + way + " who wants down", x.fate(1, 0), stepped[way][1]);
        }
        c.sentence("at a PACE (1, 2)");
        StairsThatGo y = new StairsThatGo();
        c.refused("stair(3, pace)", -1, 1, 2, pace -> y.stair(3, pace));
        c.due("slow", y.stair(3, 1), 0);
        c.due("quick", y.stair(3, 2), 1);
        c.refused("of(0, 2, pace)", -1, 1, 2, pace -> y.of(0, 2, pace));
        c.due("pace of the first", y.of(0, 2, 2), 1);
        c.due("pace of the second", y.of(1, 2, 1), 2);
    }

    private static void steps() {
        c.sentence("STEPS of one that GOES are 0 (where one steps on) to LENGTH less 1");
        for (int length = 3; length <= 10; length++) {
            StairsThatGo x = Check.day(length, 1, 1, "0us");
            c.due("steps on, of " + length, x.on(0, 0, 0, 0), 0);
            c.due("on the last, of " + length, x.on(length - 1, 0, length - 1, 0), 0);
            c.due("is through, of " + length, x.fate(0, 2), length);
            c.due("no step beyond, of " + length, x.on(0, 0, length, 0), -1);
        }
        c.sentence("each has two PLACES: 0 right, 1 left");
        StairsThatGo x = Check.day(10, 1, 1, "0us;0uw");
        for (int step = 0; step < 2; step++) {
            c.due("right of step " + step, x.on(step, 0, step, 0), 0);
            c.due("left of step " + 2 * step, x.on(step, 0, 2 * step, 1), 1);
        }
        c.refused("on(0, 0, 0, place)", -1, 0, 1, place -> x.on(0, 0, 0, place));
        c.sentence("Up leads from FLOOR 0 to FLOOR 1, down from 1 to 0.");
        StairsThatGo y = Check.day(3, 1, 1, "0us");
        Check.addStair(y, 3, 1, 2);
        y.person(0, 1, 0);
        c.due("up by the first", y.fate(0, 1), 0);
        c.due("down by the second", y.fate(1, 1), 1);
    }

    private static void settings() {
        setting("0 RULE (0 any place, 1 right to stand; 1 at first)", 0, 0, 1, 1);
        setting("1 ROOM of a LANDING (1 .. 9; 4)", 1, 1, 9, 4);
        setting("2 LEAVE (1 .. 3; 2)", 2, 1, 3, 2);
        setting("3 LIMIT (2 .. 40; 12)", 3, 2, 40, 12);
        setting("4 REST (1 .. 9; 3)", 4, 1, 9, 3);
        setting("5 BASE (0 .. 9; 2)", 5, 0, 9, 2);
        setting("6 BACK (0 .. 10 tenths; 5)", 6, 0, 10, 5);
    }

    private static void setting(String words, int what, int low, int high, int first) {
        c.sentence(words);
        StairsThatGo x = new StairsThatGo();
        c.refused("set(" + what + ", v)", -1, low, high, v -> x.set(what, v));
        c.due("at first, to the least", x.set(what, low), first);
        c.due("to the most", x.set(what, high), low);
        c.refused("set(" + what + ", v)", -1, low, high, v -> x.set(what, v));
        c.due("from the most", x.set(what, low), high);
        c.taken("set(" + what + ", v)", low, high, v -> x.set(what, v));
    }

    /** What a setting is at first, seen by the day alone. */
    private static void settingsAtFirst() {
        c.sentence("SETTINGS: 0 RULE");
        StairsThatGo x = Check.day(3, 1, 1, "0us;0us");
        c.due("one at a time", x.fate(1, 0), 1);
        x = Check.day(3, 1, 1, "0us;0us;0us;0us;0us;0us");
        Check.addStair(x, 3, 1, 1);
        Check.addStair(x, 3, 1, 1);
        c.due("two of three leave", x.at(3, 1), 4);
        x = Check.day(10, 1, 1, "0ub;1ub;2ub");
        c.due("weight 12 is not above", x.all(3), 0);
        x = Check.day(10, 1, 1, "0ub;1ub;2ub;3us");
        c.due("weight 14 is", x.at(3, 4), 3);
        c.due("base and weight", Check.day(3, 1, 1, "0us").all(1), 200 + 6);
        c.due("half of it back", Check.day(3, 1, 2, "0ds").all(1), 200 - 3);
        c.refused("set(what, 1)", -1, 0, 6, what -> new StairsThatGo().set(what, 1));
    }

    private static void people() {
        c.sentence("PEOPLE 0 .. 13, as they are told");
        StairsThatGo x = new StairsThatGo();
        for (int p = 0; p <= 13; p++) {
            c.due("told(" + p + ", 0) ahead of it", x.told(p, 0), -1);
            c.due("person " + p, x.person(99 - p, 0, 0), p);
            c.due("told(" + p + ", 0)", x.told(p, 0), 99 - p);
        }
        c.due("told(14, 0)", x.told(14, 0), -1);
        c.sentence("COME at a TICK (0 .. 99)");
        StairsThatGo y = new StairsThatGo();
        c.refused("person(tick, 0, 0)", -1, 0, 99, tick -> y.person(tick, 0, 0));
        c.due("none comes", y.count(1), 0);
        c.due("the first tick", y.person(0, 0, 0), 0);
        c.due("the last tick", y.person(99, 0, 0), 1);
        c.due("told(0, 0)", y.told(0, 0), 0);
        c.due("told(1, 0)", y.told(1, 0), 99);
        c.sentence("to a FLOOR and want to the other one");
        c.refused("person(0, floor, 0)", -1, 0, 1, floor -> y.person(0, floor, 0));
        c.due("floor 1", y.person(0, 1, 0), 2);
        c.due("told(1, 1)", y.told(1, 1), 0);
        c.due("told(2, 1)", y.told(2, 1), 1);
    }

    private static void kinds() {
        c.sentence("KINDS: 0 STANDING (weight 2), below it 1 WALKING (2), 2 BAGGED (4, takes both PLACES), "
            + "3 CHILD (1), 4 FEARING (2).");
        StairsThatGo x = new StairsThatGo();
        c.refused("person(0, 0, kind)", -1, 0, 4, kind -> x.person(0, 0, kind));
        c.due("none comes", x.count(1), 0);
        int[] weight = {2, 2, 4, 1, 2};
        for (int kind = 0; kind <= 4; kind++) {
            c.due("kind " + kind, x.person(0, 0, kind), kind);
            c.due("told(" + kind + ", 2)", x.told(kind, 2), kind);
            c.due("told(" + kind + ", 3)", x.told(kind, 3), weight[kind]);
        }
        StairsThatGo y = Check.day(3, 1, 1, "0ub");
        c.due("bags on the right", y.on(0, 0, 0, 0), 0);
        c.due("bags on the left", y.on(0, 0, 0, 1), 0);
    }

    private static void ofAndSet() {
        c.sentence("LENGTH (0), WAY (1), PACE (2) of a STAIR becomes v: what it was. BAD.");
        StairsThatGo x = new StairsThatGo();
        x.stair(3, 1);
        x.stair(4, 2);
        c.refused("of(stair, 0, 5)", -1, 0, 1, stair -> x.of(stair, 0, 5));
        // 1 is a way and a pace
        c.refused("of(0, what, 1)", -1, 0, 2, what -> x.of(0, what, 1));
        c.due("length", x.of(1, 0, 9), 4);
        c.due("way", x.of(1, 1, 2), 0);
        c.due("pace", x.of(1, 2, 1), 2);
        c.due("length again", x.of(1, 0, 4), 9);
        c.due("way again", x.of(1, 1, 1), 2);
        c.due("pace again", x.of(1, 2, 2), 1);
        // what is within the range of one is not within that of another
        c.due("length 2", x.of(0, 0, 2), -1);
        c.due("way 3", x.of(0, 1, 3), -1);
        c.due("pace 0", x.of(0, 2, 0), -1);
        c.due("pace 3", x.of(0, 2, 3), -1);
        c.sentence("A SETTING: what it was. BAD.");
        c.refused("set(what, 1)", -1, 0, 6, what -> x.set(what, 1));
        int[] low = {0, 1, 1, 2, 1, 0, 0};
        int[] first = {1, 4, 2, 12, 3, 2, 5};
        for (int what = 0; what <= 6; what++) {
            c.due("set(" + what + ")", x.set(what, low[what]), first[what]);
        }
        for (int what = 0; what <= 6; what++) {
            c.due("set(" + what + ") again", x.set(what, first[what]), low[what]);
        }
    }

    private static void change() {
        c.sentence("A CHANGE at a TICK (1 .. 99)");
        StairsThatGo x = Check.day(10, 1, 1, "0us");
        c.refused("change(tick, 0)", -1, 0, 99, tick -> x.change(tick, 0));
        c.due("none was told by these", x.fate(0, 2), 10);
        c.due("at 1", x.change(1, 0), 0);
        c.due("at 1 it is through", x.fate(0, 2), 1);
        c.due("at 99", x.change(99, 0), 1);
        x.strike(0);
        x.person(90, 0, 0);
        c.due("at 99 it is through", x.fate(0, 2), 99);
        c.sentence("to WAYS as digits in threes (of all three STAIRS; 0 .. 26)");
        c.refused("change(5, ways)", -1, 0, 26, ways -> x.change(5, ways));
        c.due("it is as it was", x.change(99, 26), 99);
        c.taken("change(99, ways)", 0, 26, ways -> x.change(99, ways));
        c.refused("change(0, ways)", -1, 0, 26, ways -> x.change(0, ways));
        c.due("it is as it was yet", x.change(99, 0), 99);
        for (int ways = 0; ways <= 26; ways++) {
            changeTo(ways);
        }
        c.sentence("TICK 0: none");
        c.due("it was at 99", x.change(0, 0), 99);
        c.due("it is not through", x.fate(0, 2), -4);
        c.due("none", x.change(0, 26), 0);
        c.due("none yet", x.change(0, 0), 0);
        c.sentence("at which TICK it was (0: there was none)");
        int was = 0;
        for (int tick = 0; tick <= 99; tick++) {
            c.due("change(" + tick + ", 0)", x.change(tick, 0), was);
            was = tick;
        }
    }

    /** Three up, three down: one for each stair, whose way is seen by who steps on. */
    private static void changeTo(int ways) {
        StairsThatGo x = new StairsThatGo();
        Check.crowd(x, "0us;0us;0us;0ds;0ds;0ds");
        for (int s = 0; s < 3; s++) {
            x.stair(3, 1);
        }
        x.change(5, ways);
        int[] digits = {ways % 3, ways / 3 % 3, ways / 9};
        for (int s = 0; s < 3; s++) {
            int who = x.on(5, s, 0, 0);
            int way = who < 0 ? 0 : x.told(who, 1) + 1;
            c.due("stair " + s + " by " + ways, way, digits[s]);
        }
    }

    private static void personAndTold() {
        c.sentence("One of PEOPLE: the number. BAD; FULL: 14.");
        StairsThatGo x = new StairsThatGo();
        for (int p = 0; p < 14; p++) {
            c.due("person " + p, x.person(0, 0, 0), p);
        }
        c.due("a fifteenth", x.person(0, 0, 0), -3);
        c.due("a fifteenth", x.person(99, 1, 4), -3);
        c.due("count(1)", x.count(1), 14);
        c.due("strike(13)", x.strike(13), 13);
        c.due("one more again", x.person(7, 1, 3), 13);
        c.due("and no more", x.person(7, 1, 3), -3);
        c.sentence("Of one of PEOPLE: 0 TICK, 1 FLOOR, 2 KIND, 3 weight. BAD.");
        c.due("told(13, 0)", x.told(13, 0), 7);
        c.due("told(13, 1)", x.told(13, 1), 1);
        c.due("told(13, 2)", x.told(13, 2), 3);
        c.due("told(13, 3)", x.told(13, 3), 1);
        c.refused("told(0, what)", -1, 0, 3, what -> x.told(0, what));
        c.refused("told(person, 0)", -1, 0, 13, person -> x.told(person, 0));
    }

    private static void strike() {
        c.sentence("One of PEOPLE does not come any more: how many are left (those behind go one down). BAD.");
        StairsThatGo x = full();
        c.refused("strike(person)", -1, 0, 13, x::strike);
        c.due("nobody is struck", x.count(1), 14);
        c.due("strike(13), the last", x.strike(13), 13);
        c.due("strike(13)", x.strike(13), -1);
        c.due("told(12, 0)", x.told(12, 0), 12);
        c.due("strike(0), the first", x.strike(0), 12);
        for (int p = 0; p < 12; p++) {
            c.due("told(" + p + ", 0)", x.told(p, 0), p + 1);
            c.due("told(" + p + ", 1)", x.told(p, 1), (p + 1) % 2);
            c.due("told(" + p + ", 2)", x.told(p, 2), (p + 1) % 5);
        }
        c.due("told(12, 0)", x.told(12, 0), -1);
        for (int left = 11; left >= 0; left--) {
            c.due("strike(0)", x.strike(0), left);
        }
        c.due("nobody to strike", x.strike(0), -1);
        c.due("all(6) of nobody", x.all(6), 0);
    }

    private static void count() {
        c.sentence("How many: 0 STAIRS, 1 PEOPLE, 2 who want up. BAD.");
        StairsThatGo x = full();
        c.due("count(0)", x.count(0), 3);
        c.due("count(1)", x.count(1), 14);
        c.due("count(2)", x.count(2), 7);
        c.refused("count(what)", -1, 0, 2, x::count);
        for (int k = 0; k < 14; k++) {
            x.strike(0);
        }
        for (int k = 0; k < 14; k++) {
            x.person(0, 1, 0);
        }
        c.due("none wants up", x.count(2), 0);
        x.strike(0);
        x.person(0, 0, 0);
        c.due("one wants up", x.count(2), 1);
        c.due("count(MIN)", x.count(MIN), -1);
        c.due("count(MAX)", x.count(MAX), -1);
    }
}
