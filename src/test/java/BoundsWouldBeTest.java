/** Each sentence about what would be that names a boundary: the part ==== 3, promises 16 to 20, 22 and 23. */
final class BoundsWouldBeTest {
    private static final int UP = 1, DOWN = 2;
    private static final int RULE = 0, ROOM = 1, LEAVE = 2, LIMIT = 3, REST = 4, BASE = 5, BACK = 6;

    /** So many want up and down in one tick, and the least ways of three stairs by which none of them waits. */
    private static final int[][] WANTS = {
        {0, 0, 0}, {1, 0, 1}, {0, 1, 2}, {2, 0, 4}, {1, 1, 5}, {0, 2, 8}, {3, 0, 13}, {2, 1, 14}, {1, 2, 17}, {0, 3, 26}
    };

    private static Check c;

    public static void main(String[] args) {
        c = new Check("BoundsWouldBeTest");
        noStairs();
        ways();
        waysOfLikeOnes();
        best();
        bestOfLikeOnes();
        thriftPaces();
        thriftTicks();
        thriftNone();
        costs();
        belowZero();
        rules();
        image();
        restore();
        c.end();
    }

    private static StairsThatGo three(int length, int pace) {
        StairsThatGo x = new StairsThatGo();
        for (int s = 0; s < 3; s++) {
            x.stair(length, pace);
        }
        return x;
    }

    private static void come(StairsThatGo x, int tick, int[] wants) {
        for (int floor = 0; floor < 2; floor++) {
            for (int k = 0; k < wants[floor]; k++) {
                x.person(tick, floor, 0);
            }
        }
    }

    private static void noStairs() {
        c.sentence("THE BEST WAYS (0), the sum of WAITS (1). BAD; NOT: there are no STAIRS.");
        StairsThatGo x = new StairsThatGo();
        StairsThatGo y = three(3, 1);
        for (int what = 0; what <= 1; what++) {
            c.due("ways(" + what + ")", x.ways(what), -2);
            c.due("ways(" + what + ") of three", y.ways(what), 0);
        }
        c.refused("ways(what) of none", -1, 0, 1, x::ways);
        c.refused("ways(what) of three", -1, 0, 1, y::ways);
        c.sentence("THE BEST CHANGE at a TICK (1 .. 99): WAYS before (0), from it on (1), the sum (2). BAD; "
            + "NOT: there are no STAIRS.");
        for (int what = 0; what <= 2; what++) {
            int asked = what;
            c.due("best(1, " + what + ")", x.best(1, what), -2);
            c.due("best(99, " + what + ")", x.best(99, what), -2);
            c.due("best(1, " + what + ") of three", y.best(1, what), 0);
            c.due("best(99, " + what + ") of three", y.best(99, what), 0);
            c.refused("best(tick, " + what + ") of none", -1, 1, 99, tick -> x.best(tick, asked));
            c.refused("best(tick, " + what + ") of three", -1, 1, 99, tick -> y.best(tick, asked));
        }
        c.refused("best(1, what) of none", -1, 0, 2, what -> x.best(1, what));
        c.refused("best(1, what) of three", -1, 0, 2, what -> y.best(1, what));
        c.sentence("THRIFT for a TICK (0 .. 99): PACES (0), ENERGY (1). BAD; NOT: there are no STAIRS; NONE: by none.");
        for (int what = 0; what <= 1; what++) {
            int asked = what;
            c.due("thrift(0, " + what + ")", x.thrift(0, what), -2);
            c.due("thrift(99, " + what + ")", x.thrift(99, what), -2);
            c.due("thrift(0, " + what + ") of three", y.thrift(0, what), 0);
            c.due("thrift(99, " + what + ") of three", y.thrift(99, what), 0);
            c.refused("thrift(tick, " + what + ") of none", -1, 0, 99, tick -> x.thrift(tick, asked));
            c.refused("thrift(tick, " + what + ") of three", -1, 0, 99, tick -> y.thrift(tick, asked));
        }
        c.refused("thrift(0, what) of none", -1, 0, 1, what -> x.thrift(0, what));
        c.refused("thrift(0, what) of three", -1, 0, 1, what -> y.thrift(0, what));
        x.person(0, 0, 0);
        c.due("NOT is ahead of NONE", x.thrift(99, 0), -2);
        y.person(0, 0, 0);
        c.due("NONE: all stand", y.thrift(99, 0), -4);
        c.due("BAD is ahead of NONE", y.thrift(99, 2), -1);
        c.due("BAD is ahead of NONE", y.thrift(100, 1), -1);
    }

    private static void ways() {
        c.sentence("WAYS of all STAIRS as digits in threes (STAIR 0 the lowest).");
        for (int[] wants : WANTS) {
            StairsThatGo x = three(3, 1);
            come(x, 0, wants);
            c.due("ways(0) for " + wants[0] + " up, " + wants[1] + " down", x.ways(0), wants[2]);
            c.due("ways(1)", x.ways(1), 0);
        }
        // one who fears takes the one slow stair of three
        int[] ways = {1, 3, 9};
        for (int s = 0; s < 3; s++) {
            StairsThatGo x = three(3, 2);
            x.of(s, 2, 1);
            x.person(0, 0, 4);
            c.due("up by stair " + s, x.ways(0), ways[s]);
            x.strike(0);
            x.person(0, 1, 4);
            c.due("down by stair " + s, x.ways(0), 2 * ways[s]);
        }
        StairsThatGo x = Check.day(3, 1, 0, "0us;0us;0us;0ds;0ds;0ds");
        for (int stairs = 1; stairs <= 3; stairs++) {
            c.holds("digits of " + stairs, x.ways(0) < new int[] {1, 3, 9, 27}[stairs]);
            x.stair(3, 1);
        }
    }

    private static void waysOfLikeOnes() {
        c.sentence("THE BEST WAYS: those, all day (no CHANGE), by which the sum of WAITS is least, "
            + "of like ones the least number.");
        StairsThatGo x = Check.day(3, 1, UP, "0us;0ds");
        c.due("up or down", x.ways(0), 1);
        c.due("the sum", x.ways(1), 100);
        x.person(0, 1, 0);
        c.due("one more wants down", x.ways(0), 2);
        c.due("the sum", x.ways(1), 100 + 0 + 1);
        x.change(1, 0);
        c.due("though all stand from 1 on", x.ways(0), 2);
        c.due("the sum", x.ways(1), 101);
        x.change(1, 1);
        c.due("though all go up from 1 on", x.ways(0), 2);
        c.due("the sum", x.ways(1), 101);
        x = three(3, 2);
        for (int p = 0; p < 14; p++) {
            x.person(0, 0, 4);
        }
        c.due("nobody may: all alike", x.ways(0), 0);
        c.due("the most there is", x.ways(1), 1400);
        x = three(3, 1);
        x.person(99, 1, 0);
        c.due("who comes at 99", x.ways(0), 2);
    }

    private static void best() {
        c.sentence("THE BEST CHANGE at a told TICK: WAYS before and WAYS from it on by which it is least");
        for (int tick : new int[] {1, 2, 50, 99}) {
            for (int[] before : WANTS) {
                for (int[] after : WANTS) {
                    StairsThatGo x = three(3, 1);
                    come(x, 0, before);
                    come(x, tick, after);
                    String call = "best(" + tick + ", ";
                    c.due(call + "0)", x.best(tick, 0), before[2]);
                    c.due(call + "1)", x.best(tick, 1), after[2]);
                    c.due(call + "2)", x.best(tick, 2), 0);
                }
            }
        }
        StairsThatGo told = Check.day(3, 1, DOWN, "0us;0us;50ds");
        told.change(1, 0);
        for (int what = 0; what <= 2; what++) {
            c.due("though another one is told: best(50, " + what + ")", told.best(50, what), new int[] {1, 2, 1}[what]);
        }
        // who is on a landing at the tick leaves it: the bags step on at 6, behind a jam at 5, the last one at 7
        StairsThatGo jam = Check.day(3, 1, 0, "4us;1us;2us;1us;6us;2us;5ub");
        jam.set(RULE, 0);
        jam.set(ROOM, 2);
        jam.set(LEAVE, 1);
        for (int what = 0; what <= 2; what++) {
            c.due("by a landing: best(5, " + what + ")", jam.best(5, what), new int[] {1, 1, 2}[what]);
        }
        // a tick early it is theirs who come a tick ahead, a tick late it is not yet theirs
        StairsThatGo x = Check.day(3, 1, 0, "50us;51ds");
        int[][] due = {{0, 1, 49}, {1, 2, 0}, {1, 2, 1}};
        for (int tick = 50; tick <= 52; tick++) {
            for (int what = 0; what <= 2; what++) {
                c.due("best(" + tick + ", " + what + ")", x.best(tick, what), due[tick - 50][what]);
            }
        }
    }

    private static void bestOfLikeOnes() {
        c.sentence("of like ones the least WAYS before, then the least from it on.");
        StairsThatGo x = Check.day(3, 1, 0, "50us");
        // before 50 all are alike, from 51 on they are
        c.due("before 50", x.best(50, 0), 0);
        c.due("from 50", x.best(50, 1), 1);
        c.due("before 51", x.best(51, 0), 1);
        c.due("from 51", x.best(51, 1), 0);
        x = Check.day(3, 1, 0, "0us;0ds");
        // up, then down, waits as long as down, then up
        c.due("before 1", x.best(1, 0), 1);
        c.due("from 1", x.best(1, 1), 2);
        c.due("the sum", x.best(1, 2), 1);
        x = Check.day(3, 1, 0, "");
        c.due("nobody, before 99", x.best(99, 0), 0);
        c.due("nobody, from 99", x.best(99, 1), 0);
        c.due("nobody, the sum", x.best(99, 2), 0);
        x = three(3, 2);
        for (int p = 0; p < 14; p++) {
            x.person(0, 0, 4);
        }
        c.due("nobody may, before 1", x.best(1, 0), 0);
        c.due("nobody may, from 1", x.best(1, 1), 0);
        c.due("the most there is", x.best(1, 2), 1400);
    }

    /** One goes by each of these stairs, the others stand. */
    private static StairsThatGo oneForEach(int stairs, int way) {
        StairsThatGo x = three(3, 1);
        x.set(LEAVE, 3);
        for (int s = 0; s < 3; s++) {
            if ((stairs >> s & 1) == 1) {
                x.of(s, 1, way);
                x.person(0, way - 1, 0);
            }
        }
        return x;
    }

    private static void thriftPaces() {
        c.sentence("PACES of all STAIRS (1 or 2; as digits in twos, PACE 2 a 1, STAIR 0 the lowest)");
        for (int stairs = 0; stairs < 8; stairs++) {
            int many = Integer.bitCount(stairs);
            StairsThatGo x = oneForEach(stairs, UP);
            c.due("up by " + stairs, x.thrift(99, 0), stairs);
            c.due("its energy", x.thrift(99, 1), 204 * many);
            // down, a slow stair gives more back, but takes a tick more
            x = oneForEach(stairs, DOWN);
            c.due("down by " + stairs + ", slow", x.thrift(3, 0), 0);
            c.due("its energy", x.thrift(3, 1), 197 * many);
            c.due("down by " + stairs + ", quick", x.thrift(2, 0), stairs);
            c.due("its energy", x.thrift(2, 1), 198 * many);
        }
        c.sentence("of like ones the least number.");
        StairsThatGo x = three(3, 2);
        for (int s = 0; s < 3; s++) {
            x.of(s, 1, DOWN);
        }
        x.set(BACK, 0);
        x.person(0, 1, 0);
        c.due("nothing back: slow and quick alike", x.thrift(3, 0), 0);
        c.due("quick by 2", x.thrift(2, 0), 1);
        c.due("nobody by stairs 1, 2", x.thrift(2, 1), 600);
    }

    private static void thriftTicks() {
        c.sentence("by which all are THROUGH by that TICK with the least ENERGY (of all TICKS)");
        StairsThatGo x = Check.day(10, 1, UP, "0us");
        int[] due = {-4, -4, -4, -4, -4, 1, 1, 1, 1, 1, 1};
        for (int tick = 0; tick <= 10; tick++) {
            c.due("thrift(" + tick + ", 0)", x.thrift(tick, 0), due[tick]);
            c.due("thrift(" + tick + ", 1)", x.thrift(tick, 1), due[tick] < 0 ? -4 : 210);
        }
        x.of(0, 1, DOWN);
        x.strike(0);
        x.person(0, 1, 0);
        for (int tick = 0; tick <= 10; tick++) {
            int paces = tick == 10 ? 0 : due[tick];
            c.due("down: thrift(" + tick + ", 0)", x.thrift(tick, 0), paces);
            c.due("down: thrift(" + tick + ", 1)", x.thrift(tick, 1), paces < 0 ? -4 : paces == 0 ? 190 : 195);
        }
        x = Check.day(3, 1, UP, "96us");
        c.due("by 99", x.thrift(99, 0), 1);
        c.due("by 98", x.thrift(98, 0), 1);
        c.due("by 97", x.thrift(97, 0), -4);
        x.person(97, 0, 0);
        c.due("both by 99", x.thrift(99, 0), 1);
        x.person(98, 0, 0);
        c.due("one can't by 99", x.thrift(99, 0), -4);
        // the energy of ticks behind that one counts, too
        x = Check.day(3, 1, DOWN, "0ds");
        x.change(50, UP);
        c.due("of a day", x.thrift(9, 1), 50 * 2 - 3 + 50 * 2);
    }

    private static void thriftNone() {
        c.sentence("NONE: by none.");
        StairsThatGo x = Check.day(3, 1, 0, "");
        c.due("nobody, by 0", x.thrift(0, 0), 0);
        c.due("nobody, by 0: energy", x.thrift(0, 1), 0);
        x.person(0, 0, 0);
        for (int tick = 0; tick <= 99; tick += 33) {
            c.due("it stands, by " + tick, x.thrift(tick, 0), -4);
            c.due("it stands, by " + tick + ": energy", x.thrift(tick, 1), -4);
        }
        x.of(0, 1, UP);
        x.set(BASE, 0);
        c.due("by 2", x.thrift(2, 1), 4);
        c.due("by 1", x.thrift(1, 1), -4);
        x.of(0, 1, DOWN);
        c.due("the other way", x.thrift(99, 0), -4);
        x.of(0, 1, UP);
        // quick alone is in time, but one fears it
        x.person(0, 0, 4);
        c.due("all by 4", x.thrift(4, 0), 0);
        c.due("all by 3", x.thrift(3, 0), -4);
    }

    private static void costs() {
        c.sentence("COSTS of one: the sum of WAITS of all others, less what it were, if that one did not come.");
        StairsThatGo x = Check.day(3, 1, UP, Check.times(14, "0us"));
        for (int p = 0; p < 14; p++) {
            c.due("costs(" + p + ") of fourteen", x.costs(p), 13 - p);
        }
        c.due("all come yet", x.count(1), 14);
        x = Check.day(3, 1, UP, "0us");
        c.due("one alone", x.costs(0), 0);
        c.sentence("COSTS of one. BAD less 100000.");
        StairsThatGo y = Check.day(3, 1, UP, "0us;0us;0us");
        c.refused("costs(person)", -100001, 0, 2, y::costs);
        c.taken("costs(person)", 0, 2, y::costs);
        y.strike(0);
        c.due("the last is struck", y.costs(2), -100001);
        c.due("nobody", new StairsThatGo().costs(0), -100001);
        x = Check.day(3, 1, 0, Check.times(14, "0us"));
        c.due("nobody is in the way where none goes", x.costs(13), 0);
    }

    private static void belowZero() {
        c.sentence("Where a told thing may be below 0, refused ones are 100000 less (-100001 and so on).");
        StairsThatGo x = Check.day(3, 1, UP, "99us;99uc");
        x.set(RULE, 0);
        c.due("costs of who helps a child, at 99", x.costs(0), -1);
        c.due("costs of the child", x.costs(1), 0);
        c.due("costs of none", x.costs(2), -100001);
        x = Check.day(3, 1, UP, "0us;0uc");
        c.due("who helps it all day", x.costs(0), 1 - 100);
        x = Check.day(3, 1, UP, "0us;0us");
        c.due("rules() below 0", x.rules(), -1);
        x = Check.day(3, 1, 0, "");
        x.person(0, 0, 0);
        c.due("no energy is 0", x.all(1), 0);
    }

    private static void rules() {
        c.sentence("WAITS together by RULE 0 less those by RULE 1.");
        c.due("nothing there", new StairsThatGo().rules(), 0);
        for (int rule = 0; rule <= 1; rule++) {
            StairsThatGo x = Check.day(3, 1, UP, Check.times(14, "0us"));
            x.set(LIMIT, 40);
            x.set(ROOM, 9);
            x.set(LEAVE, 3);
            x.set(RULE, rule);
            c.due("fourteen, rule " + rule, x.rules(), 42 - 91);
            c.due("which stays told", x.set(RULE, 1), rule);
        }
        StairsThatGo x = Check.day(3, 1, 0, Check.times(14, "0us"));
        c.due("all wait by both", x.rules(), 0);
        // side by side they come to a landing for one, and the last of all finds no place
        x = Check.day(3, 1, UP, "0us;0us;1us;1us;2us;2us;3us");
        x.set(ROOM, 1);
        c.due("above 0", x.rules(), 97 - (0 + 1 + 1 + 2 + 2 + 3 + 3));
        // rule 0: one waits for the rest behind 0, then rests follow; rule 1 trips when the second steps on
        x = Check.day(3, 1, UP, "0us;0us;2us");
        x.set(LIMIT, 3);
        x.set(REST, 9);
        c.due("by hand", x.rules(), 8 - (1 + 9));
    }

    private static StairsThatGo rich() {
        StairsThatGo x = new StairsThatGo();
        int[][] stairs = {{3, 2, 1}, {10, 1, 2}, {7, 2, 0}};
        for (int[] s : stairs) {
            Check.addStair(x, s[0], s[1], s[2]);
        }
        int[] most = {0, 9, 3, 40, 9, 9, 10};
        for (int what = 0; what <= 6; what++) {
            x.set(what, most[what]);
        }
        x.change(99, 26);
        for (int p = 0; p < 14; p++) {
            x.person(99 - 7 * p, p % 2, p % 5);
        }
        return x;
    }

    private static void richIs(StairsThatGo x, String when) {
        int[][] stairs = {{3, 1, 2}, {10, 2, 1}, {7, 0, 2}};
        c.due(when + ": count(0)", x.count(0), 3);
        c.due(when + ": count(1)", x.count(1), 14);
        for (int p = 0; p < 14; p++) {
            c.due(when + ": tick of " + p, x.told(p, 0), 99 - 7 * p);
            c.due(when + ": floor of " + p, x.told(p, 1), p % 2);
            c.due(when + ": kind of " + p, x.told(p, 2), p % 5);
        }
        for (int s = 0; s < 3; s++) {
            for (int what = 0; what < 3; what++) {
                c.due(when + ": stair " + s + ", " + what, x.of(s, what, stairs[s][what]), stairs[s][what]);
            }
        }
        int[] most = {0, 9, 3, 40, 9, 9, 10};
        for (int what = 0; what <= 6; what++) {
            c.due(when + ": setting " + what, x.set(what, most[what]), most[what]);
        }
        c.due(when + ": change", x.change(99, 26), 99);
    }

    private static void image() {
        c.sentence("All but SHEETS, THE TAPE is kept as an IMAGE: 1.");
        StairsThatGo x = rich();
        x.sheet(0, 1, 16);
        Check.type(x, "7us");
        c.due("image()", x.image(), 1);
        richIs(x, "as it was told");
        for (int s = 0; s < 3; s++) {
            x.of(s, 0, 5);
            x.of(s, 1, 0);
            x.of(s, 2, 1);
        }
        int[] low = {1, 1, 1, 2, 1, 0, 0};
        for (int what = 0; what <= 6; what++) {
            x.set(what, low[what]);
        }
        x.change(0, 0);
        for (int p = 0; p < 14; p++) {
            x.strike(0);
        }
        x.person(5, 1, 3);
        x.drop(0);
        x.sheet(1, 2, 7);
        Check.type(x, ";8dc");
        c.due("restore()", x.restore(), 1);
        c.due("the ways of the change, too: energy", x.all(1), rich().all(1));
        c.due("the ways of the change, too: who is through", x.at(99, 3), rich().at(99, 3));
        c.due("a sheet that was dropped", x.drop(0), -11);
        c.due("a sheet that came", x.drop(1), 7);
        richIs(x, "restored");
        x.strike(13);
        x.strike(12);
        c.due("the tape goes on", x.people(), 2);
        c.due("told(12, 0)", x.told(12, 0), 7);
        c.due("told(13, 0)", x.told(13, 0), 8);
        c.due("the same image again", x.restore(), 1);
        richIs(x, "restored again");
    }

    private static void restore() {
        c.sentence("All is as it was then: 1. NONE: there is none.");
        StairsThatGo x = rich();
        c.due("no image yet", x.restore(), -4);
        richIs(x, "nothing restored");
        c.due("nor yet", x.restore(), -4);
        StairsThatGo y = new StairsThatGo();
        c.due("an image of nothing", y.image(), 1);
        y.stair(3, 1);
        y.person(0, 0, 0);
        y.set(ROOM, 9);
        y.change(5, 5);
        c.due("restore()", y.restore(), 1);
        c.due("no stairs", y.count(0), 0);
        c.due("nobody", y.count(1), 0);
        c.due("NOT", y.ways(0), -2);
        c.due("room at first", y.set(ROOM, 4), 4);
        c.due("no change", y.change(0, 0), 0);
        c.due("a stair that comes then", y.stair(4, 2), 0);
        c.due("stands", y.of(0, 1, UP), 0);
        c.due("one who comes then", y.person(1, 0, 0), 0);
        c.due("a later image", y.image(), 1);
        y.strike(0);
        c.due("restore()", y.restore(), 1);
        c.due("is the later one", y.count(1), 1);
        c.due("restore()", y.restore(), 1);
        c.due("as often as one likes", y.count(1), 1);
    }
}
