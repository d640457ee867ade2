/** Each sentence about the ticks of a day that names a boundary: the part ==== 2 and promises 12 to 15. */
final class BoundsDayTest {
    private static final int UP = 1, DOWN = 2;
    private static final int RULE = 0, ROOM = 1, LEAVE = 2, LIMIT = 3, REST = 4, BASE = 5, BACK = 6;
    private static Check c;

    public static void main(String[] args) {
        c = new Check("BoundsDayTest");
        ticks();
        comes();
        goesByPace();
        stairsInOrder();
        jams();
        roomOfNine();
        othersGoOn();
        walks();
        leaves();
        stepsOn();
        whoMay();
        bagged();
        child();
        limit();
        rest();
        falls();
        energyUp();
        energyDown();
        changeBetween();
        changeToStand();
        changeRound();
        waits();
        fate();
        at();
        on();
        all();
        c.end();
    }

    private static void fates(StairsThatGo x, String day, int what, int... due) {
        for (int p = 0; p < due.length; p++) {
            c.due(day + ": fate(" + p + ", " + what + ")", x.fate(p, what), due[p]);
        }
    }

    private static void ticks() {
        c.sentence("TICKS 0 .. 99; in each:");
        StairsThatGo x = Check.day(3, 1, UP, "0us;96us;97us;99us");
        fates(x, "first and last", 0, 0, 96, 97, 99);
        fates(x, "by 99 at the latest", 2, 3, 99, -4, -4);
        c.due("on the stair behind 0", x.at(0, 2), 1);
        c.due("on the stair behind 99", x.at(99, 2), 12);
        c.due("a hundred ticks of energy", Check.day(3, 1, UP, "").all(1), 200);
    }

    private static void comes() {
        c.sentence("1 Who COMES now waits at its FLOOR, by numbers.");
        StairsThatGo x = Check.day(3, 1, 0, "0us;1us;98ds;99ds");
        int[][] due = {{0, 1}, {1, 3}, {97, 3}, {98, 7}, {99, 15}};
        for (int[] d : due) {
            c.due("who waits behind " + d[0], x.at(d[0], 0), d[1]);
        }
    }

    private static void goesByPace() {
        c.sentence("goes PACE times by one STEP");
        for (int length = 3; length <= 10; length++) {
            c.due("length " + length, Check.day(length, 1, UP, "0us").fate(0, 2), length);
            c.due("length " + length + ", quick", Check.day(length, 2, UP, "0us").fate(0, 2), (length + 1) / 2);
            c.due("length " + length + ", down", Check.day(length, 2, DOWN, "0ds").fate(0, 2), (length + 1) / 2);
        }
        c.due("one step on", Check.day(10, 1, UP, "0us").on(1, 0, 1, 0), 0);
        c.due("two steps on", Check.day(10, 2, UP, "0us").on(1, 0, 2, 0), 0);
    }

    private static void stairsInOrder() {
        c.sentence("2 Each STAIR that GOES and is not TRIPPED, 0 first");
        // who fears takes the slow stair 1; both come to the landing at 3, where there is room for one
        StairsThatGo x = Check.day(6, 2, UP, "0uf;0us");
        Check.addStair(x, 3, 1, UP);
        x.set(ROOM, 1);
        fates(x, "stairs", 1, 1, 0);
        fates(x, "the greater number is first", 2, 4, 3);
        c.due("the second stair jams", x.all(2), 1);
        x.of(0, 1, 0);
        c.due("one that stands does not go", x.on(3, 0, 0, 0), -4);
    }

    /** Two side by side, a landing for so many, of which one leaves a tick. */
    private static StairsThatGo twoAbreast(int room, String people) {
        StairsThatGo x = Check.day(3, 1, UP, people);
        x.set(RULE, 0);
        x.set(ROOM, room);
        x.set(LEAVE, 1);
        return x;
    }

    private static void jams() {
        c.sentence("if more of PEOPLE are on its last STEP than the LANDING of the FLOOR to which it leads has ROOM left, "
            + "it JAMS: it goes no more in this TICK.");
        c.due("one for one", twoAbreast(1, "0us").all(2), 0);
        c.due("two for one", twoAbreast(1, "0us;0us").all(2), 97);
        c.due("two for two", twoAbreast(2, "0us;0us").all(2), 0);
        c.due("two for one that is left", twoAbreast(2, "0us;0us;1us;1us").all(2), 1);
        c.due("one for one that is left", twoAbreast(2, "0us;0us;1us").all(2), 0);
        c.due("two for two that are left", twoAbreast(3, "0us;0us;1us;1us").all(2), 0);
        c.due("bags are one for one", twoAbreast(1, "0ub").all(2), 0);
        StairsThatGo x = twoAbreast(1, "0us;0us");
        for (int tick = 2; tick <= 99; tick += 97) {
            c.due("on the last step behind " + tick, x.at(tick, 2), 3);
            c.due("the last step behind " + tick, x.on(tick, 0, 2, 1), 1);
        }
        fates(x, "never through", 2, -4, -4);
        // number 0 is one, too: on the left, a walking one
        x = Check.day(3, 1, UP, "1uw;0us");
        x.set(ROOM, 1);
        c.due("two for one, number 0 on the left", x.all(2), 97);
        x.set(ROOM, 2);
        c.due("two for two, number 0 on the left", x.all(2), 0);
        // the landing is full by the first stair, but nobody wants to it from the second one
        x = Check.day(3, 1, UP, "0us;0us");
        Check.addStair(x, 5, 1, UP);
        x.set(ROOM, 1);
        c.due("none for none", x.all(2), 0);
        x.of(1, 0, 3);
        c.due("one for none", x.all(2), 1);
        // the landing of the other floor does not count
        x = Check.day(3, 1, UP, "0us;0ds");
        Check.addStair(x, 3, 1, DOWN);
        x.set(ROOM, 1);
        c.due("one for each floor", x.all(2), 0);
        // a quick one lands some by its first step and jams ahead of its second one
        x = Check.day(4, 2, UP, "0us;0us");
        x.set(RULE, 0);
        x.set(ROOM, 1);
        c.due("behind the first step", x.on(2, 0, 3, 0), 0);
        c.due("once a tick", x.all(2), 98);
    }

    private static void roomOfNine() {
        c.sentence("1 ROOM of a LANDING (1 .. 9; 4)");
        StairsThatGo x = twoAbreast(9, Check.times(14, "0us"));
        Check.addStair(x, 3, 1, UP);
        Check.addStair(x, 3, 1, UP);
        x.set(LIMIT, 40);
        // of six behind 3 one left; two and two more make nine, for the last two there is no room
        c.due("on the landing behind 4", Integer.bitCount(x.at(4, 1)), 8);
        c.due("yet on a stair", Integer.bitCount(x.at(4, 2)), 4);
        // behind 4 stair 2 and, behind 5, stairs 0 and 2 jam, behind 6 and 7 stair 2
        c.due("jams", x.all(2), 5);
        x.set(ROOM, 8);
        c.due("on the landing behind 4", Integer.bitCount(x.at(4, 1)), 6);
        x.set(ROOM, 1);
        c.due("nobody comes to it", x.at(99, 1), 0);
        c.due("jams of three stairs", x.all(2), 3 * 97);
    }

    private static void othersGoOn() {
        c.sentence("Else these are on the LANDING, all others one STEP on.");
        StairsThatGo x = Check.day(3, 1, UP, "0us;1us;2us");
        x.set(LEAVE, 1);
        for (int step = 0; step < 3; step++) {
            c.due("step " + step + " behind 2", x.on(2, 0, step, 0), 2 - step);
            c.due("step " + step + " behind 3", x.on(3, 0, step, 0), step == 0 ? -4 : 3 - step);
        }
        c.due("through behind 3", x.at(3, 3), 1);
    }

    private static void walks() {
        c.sentence("Then (also if it JAMMED), once, each WALKING one on PLACE 1, from the last STEP back, "
            + "goes one STEP more, if there is a next one and PLACE 1 of it is free.");
        c.due("to the last step", Check.day(3, 1, UP, "0uw").on(1, 0, 2, 1), 0);
        c.due("not beyond it", Check.day(3, 2, UP, "0uw").on(1, 0, 2, 1), 0);
        fates(Check.day(3, 2, UP, "0uw"), "lands a tick behind", 2, 2);
        c.due("once, at pace 2", Check.day(10, 2, UP, "0uw").on(1, 0, 3, 1), 0);
        c.due("not on the tick when it steps on", Check.day(3, 1, UP, "0uw").on(0, 0, 0, 1), 0);
        // both walk, for the one ahead walks first
        StairsThatGo x = Check.day(10, 1, UP, "0uw;1uw");
        c.due("the one ahead", x.on(2, 0, 4, 1), 0);
        c.due("the one behind", x.on(2, 0, 2, 1), 1);
        // by a jam: from step 1 to the last one, and from step 0 to 1, but not to where one is
        x = Check.day(5, 1, UP, "0us;2uw;3uw;4uw;5uw;6uw;7uw");
        x.set(ROOM, 1);
        c.due("jams from 5 on", x.all(2), 95);
        int[] left = {5, 4, 3, 2, 1};
        for (int step = 0; step < 5; step++) {
            c.due("left of step " + step, x.on(9, 0, step, 1), left[step]);
        }
        fates(x, "the last one finds no place", 0, 0, 2, 3, 4, 5, 6, -4);
    }

    private static void leaves() {
        c.sentence("LEAVE of those who came to it first (of like TICKS the lesser number) go: they are THROUGH.");
        int[][] due = {{3, 4, 5, 6}, {3, 3, 4, 4}, {3, 3, 3, 4}};
        for (int leave = 1; leave <= 3; leave++) {
            StairsThatGo x = twoAbreast(9, "0us;0us;0us;0us");
            Check.addStair(x, 3, 1, UP);
            x.set(LEAVE, leave);
            fates(x, "leave " + leave, 2, due[leave - 1]);
            x = twoAbreast(9, "0us");
            x.set(LEAVE, leave);
            fates(x, "one, leave " + leave, 2, 3);
        }
        // numbers against ticks: the first told comes to the landing last
        StairsThatGo x = twoAbreast(9, "1us;0us;0us");
        c.due("on the landing behind 3", x.at(3, 1), 4);
        fates(x, "by ticks, then by numbers", 2, 5, 3, 4);
        // two that come from two stairs in one tick: the lesser number is on the second one
        x = Check.day(4, 1, UP, "1us;0us");
        Check.addStair(x, 3, 1, UP);
        x.set(LEAVE, 1);
        x.of(0, 0, 3);
        fates(x, "stair 0 takes both", 1, 0, 0);
        x.of(0, 0, 4);
        x.person(1, 0, 0);
        fates(x, "by stairs", 1, 0, 0, 1);
        fates(x, "of like ticks", 2, 6, 4, 5);
        c.sentence("3 From each LANDING, FLOOR 0 first");
        x = Check.day(3, 1, UP, "0us;0ds;0us;0ds");
        Check.addStair(x, 3, 1, DOWN);
        x.set(RULE, 0);
        x.set(LEAVE, 1);
        fates(x, "each floor has its own", 2, 3, 3, 4, 4);
    }

    private static void stepsOn() {
        c.sentence("if it is free, the first of those who wait at its FLOOR (who came first, then the lesser number) "
            + "that may steps on");
        fates(Check.day(3, 1, UP, "1us;0us;1us;0us"), "row", 0, 2, 0, 3, 1);
        StairsThatGo x = Check.day(3, 2, UP, "0uf;1uc;2us");
        fates(x, "the first that may", 0, -4, -4, 2);
        // step 0 is taken where a jam goes back to it
        x = twoAbreast(1, "0us;0us;1us;2us;3us;4us");
        fates(x, "up to the last free place", 0, 0, 0, 1, 2, 3, -4);
        x = twoAbreast(1, "0us;0us;3us;3us;4us");
        fates(x, "none is free", 0, 0, 0, 3, 3, -4);
        c.sentence("4 On each STAIR that GOES and is not TRIPPED, 0 first, STEP 0, PLACE 0, then 1");
        x = twoAbreast(4, "0us;0us;0us;0us");
        Check.addStair(x, 3, 1, UP);
        fates(x, "by stairs", 1, 0, 0, 1, 1);
        c.due("right first", x.on(0, 0, 0, 0), 0);
        c.due("then left", x.on(0, 0, 0, 1), 1);
        c.due("then right of the next", x.on(0, 1, 0, 0), 2);
        x.of(0, 1, 0);
        fates(x, "but for one that stands", 1, 1, 1, 1, 1);
        x.of(0, 1, DOWN);
        fates(x, "but for one the other way", 1, 1, 1, 1, 1);
    }

    private static void whoMay() {
        c.sentence("by RULE 1 a WALKING one on PLACE 1 alone, all others on PLACE 0 alone; by RULE 0 on either");
        String kinds = "swbcf";
        for (int kind = 0; kind < 5; kind++) {
            if (kind != 3) {
                String one = "0u" + kinds.charAt(kind);
                StairsThatGo x = Check.day(3, 1, UP, one + ";" + one);
                c.due("right by rule 1, kind " + kind, x.on(0, 0, 0, 0), kind == 1 ? -4 : 0);
                c.due("left by rule 1, kind " + kind, x.on(0, 0, 0, 1), kind == 1 || kind == 2 ? 0 : -4);
                x.set(RULE, 0);
                c.due("right by rule 0, kind " + kind, x.on(0, 0, 0, 0), 0);
                c.due("left by rule 0, kind " + kind, x.on(0, 0, 0, 1), kind == 2 ? 0 : 1);
            }
        }
        c.sentence("a FEARING one only at PACE 1");
        fates(Check.day(3, 1, UP, "0uf"), "slow", 0, 0);
        fates(Check.day(3, 2, UP, "0uf"), "quick", 0, -4);
        StairsThatGo x = Check.day(3, 2, UP, "0uf");
        Check.addStair(x, 3, 1, UP);
        fates(x, "the slow one of two", 1, 1);
    }

    private static void bagged() {
        c.sentence("a BAGGED one only on PLACE 0, if both are free (also by RULE 1; it takes both)");
        for (int rule = 0; rule <= 1; rule++) {
            StairsThatGo x = Check.day(3, 1, UP, "0ub;0uw;0us");
            x.set(RULE, rule);
            fates(x, "bags first by rule " + rule, 0, 0, 1, 1);
            c.due("right", x.on(0, 0, 0, 0), 0);
            c.due("left", x.on(0, 0, 0, 1), 0);
        }
        // a jam holds step 0: none of it is free, then the right place alone, then the left one
        StairsThatGo x = Check.day(3, 1, UP, "0us;1uw;1us;2us;2uw;3uw;5ub");
        x.set(ROOM, 1);
        c.due("the left is taken", x.on(6, 0, 0, 1), 5);
        c.due("the right is taken", x.on(6, 0, 0, 0), 3);
        fates(x, "no place for bags", 0, 0, 1, 1, 2, 2, 3, -4);
        x = Check.day(3, 1, UP, "0us;1uw;2uw;3uw;4ub;5us");
        x.set(ROOM, 1);
        c.due("left alone is taken", x.on(4, 0, 0, 1), 3);
        c.due("right alone is free", x.on(4, 0, 0, 0), -4);
        fates(x, "bags want both", 0, 0, 1, 2, 3, -4, 5);
        x = Check.day(3, 1, UP, "3uw;0us;1uw;2uw;4ub;5us");
        x.set(ROOM, 1);
        c.due("left alone is taken by number 0", x.on(4, 0, 0, 1), 0);
        fates(x, "bags want both", 0, 3, 0, 1, 2, -4, 5);
        x = Check.day(3, 1, UP, "0us;1uw;1us;2us;4ub;6uw");
        x.set(ROOM, 1);
        c.due("right alone is taken", x.on(5, 0, 0, 0), 3);
        c.due("left alone is free", x.on(5, 0, 0, 1), -4);
        fates(x, "bags want both", 0, 0, 1, 1, 2, -4, 6);
    }

    private static void child() {
        c.sentence("a CHILD only if one that is no CHILD is on STEP 0 or 1 of it");
        fates(Check.day(10, 1, UP, "0uc"), "alone", 0, -4);
        fates(Check.day(10, 1, UP, "0us;1uc"), "on step 1", 0, 0, 1);
        fates(Check.day(10, 1, UP, "0us;2uc"), "on step 2", 0, 0, -4);
        fates(Check.day(10, 2, UP, "0us;1uc"), "on step 2, quick", 0, 0, -4);
        StairsThatGo x = Check.day(10, 2, UP, "0us;0uc");
        x.set(RULE, 0);
        fates(x, "on step 0", 0, 0, 0);
        fates(Check.day(10, 1, UP, "0us;1uc;2uc"), "a child is no grown one", 0, 0, 1, -4);
        for (char kind : new char[] {'s', 'b', 'f'}) {
            fates(Check.day(10, 1, UP, "0u" + kind + ";1uc"), "behind " + kind, 0, 0, 1);
        }
        fates(Check.day(10, 1, UP, "0uw;1uc"), "behind one who walked to step 2", 0, 0, -4);
        // a grown one on the left of step 1, whom bags keep there
        fates(Check.day(10, 1, UP, "0ub;1uw;2uc"), "behind the left", 0, 0, 1, 2);
        // of it: not of another stair
        x = Check.day(10, 1, DOWN, "0ds;0uc;1uc");
        Check.addStair(x, 10, 1, UP);
        fates(x, "another stair's", 0, 0, -4, -4);
        // by rule 1 a child goes on the right alone, so nobody is beside it
        x = Check.day(10, 1, UP, "0uw;0uc");
        fates(x, "a walking one steps on behind it", 0, 0, -4);
        x.set(RULE, 0);
        fates(x, "by rule 0 beside it", 0, 0, 0);
    }

    private static StairsThatGo limited(int limit, int length, String people) {
        StairsThatGo x = Check.day(length, 1, UP, people);
        x.set(LIMIT, limit);
        x.set(REST, 9);
        return x;
    }

    private static void limit() {
        c.sentence("A STAIR whose weights together are above LIMIT is TRIPPED");
        c.due("2 is not above 2", limited(2, 3, "0us").all(3), 0);
        c.due("3 is", limited(2, 3, "0us;1uc").at(1, 4), 9);
        c.due("4 is", limited(2, 3, "0ub").at(0, 4), 9);
        c.due("4 is not above 4", limited(4, 3, "0ub").all(3), 0);
        c.due("5 is", limited(4, 3, "0ub;1uc").at(1, 4), 9);
        c.due("40 is not above 40", limited(40, 10, Check.times(14, "0ub")).all(3), 0);
        c.due("40 is on it", Integer.bitCount(limited(40, 10, Check.times(14, "0ub")).at(9, 2)), 10);
        c.due("36 is not above 39", limited(39, 10, Check.times(14, "0ub")).at(8, 4), 0);
        c.due("40 is", limited(39, 10, Check.times(14, "0ub")).at(9, 4), 9);
        // who landed weighs no more, who stepped on in this tick does
        c.due("one lands, one steps on", limited(2, 3, "0us;3us").all(3), 0);
        c.due("one steps on a tick ahead", limited(2, 3, "0us;2us").at(2, 4), 9);
    }

    private static void rest() {
        c.sentence("is TRIPPED for REST TICKS from the next one on (if it is not so now)");
        for (int rest = 1; rest <= 9; rest++) {
            StairsThatGo x = Check.day(10, 1, UP, "0ub");
            x.set(LIMIT, 3);
            x.set(REST, rest);
            for (int t = 0; t <= 3 * rest; t++) {
                int phase = t % (rest + 1);
                c.due("rest " + rest + ", behind " + t, x.at(t, 4), rest - phase);
                c.due("rest " + rest + ", its step behind " + t, x.on(t, 0, t / (rest + 1), 0), 0);
            }
            c.due("rest " + rest + ", how often", x.all(3), 10);
        }
        // nobody steps on one that rests, nor does it cost
        StairsThatGo x = Check.day(3, 1, UP, "0ub;1us");
        x.set(LIMIT, 3);
        x.set(REST, 9);
        fates(x, "behind the rest", 0, 0, 10);
        x.strike(1);
        // at 0, 10, 20 it goes with the weight of 4, at 30 with none
        c.due("energy", x.all(1), 3 * (2 + 4) + 70 * 2);
    }

    private static void falls() {
        c.sentence("at PACE 2 each WALKING one on it FALLS (and is STANDING from then on)");
        for (int pace = 1; pace <= 2; pace++) {
            StairsThatGo x = Check.day(10, pace, UP, "0ub;1uw;1us");
            x.set(LIMIT, 7);
            x.set(REST, 1);
            c.due("trips at pace " + pace, x.at(1, 4), 1);
            fates(x, "pace " + pace, 4, 0, pace - 1, 0);
            c.due("who fell at pace " + pace, x.all(4), 2 * (pace - 1));
            x.of(0, 2, 3 - pace);
            c.due("who fell at pace " + (3 - pace) + " then", x.all(4), 2 * (2 - pace));
        }
        // the one who fell does not walk on
        StairsThatGo x = Check.day(10, 2, UP, "0ub;1uw;1us");
        x.set(LIMIT, 7);
        x.set(REST, 1);
        c.due("behind 3", x.on(3, 0, 2, 1), 1);
        x.set(LIMIT, 8);
        c.due("without a fall", x.on(2, 0, 3, 1), 1);
        c.due("just the limit: none falls", x.all(4), 0);
        // one who comes onto it later, or is not on it, did not fall
        x = Check.day(10, 2, UP, "0ub;0dw;0uw;70uw");
        Check.addStair(x, 10, 2, DOWN);
        x.set(LIMIT, 3);
        x.set(REST, 9);
        fates(x, "on it when it tripped", 4, 0, 0, 1, 0);
        // on right places they fall, too
        x = Check.day(10, 2, UP, "0uw;0uw");
        x.set(RULE, 0);
        x.set(LIMIT, 3);
        c.due("right and left", x.all(4), 3);
    }

    private static void energyUp() {
        c.sentence("ENERGY of a STAIR that GOES (and is not TRIPPED in this TICK): BASE and its weights, if it GOES up");
        for (int base = 0; base <= 9; base++) {
            StairsThatGo x = Check.day(3, 1, UP, "0ub;50uc");
            x.set(BASE, base);
            c.due("base " + base, x.all(1), 100 * base + 3 * 4);
            x.set(BACK, 0);
            c.due("base " + base + ", nothing back", x.all(1), 100 * base + 3 * 4);
            x.of(0, 1, 0);
            c.due("base " + base + ", stands", x.all(1), 0);
        }
        StairsThatGo x = Check.day(3, 1, UP, "99us");
        c.due("who steps on weighs in that tick", x.all(1), 200 + 2);
        // in the tick when it trips it costs yet
        x = Check.day(10, 1, UP, "95ub");
        x.set(LIMIT, 2);
        x.set(REST, 9);
        c.due("it trips at 95", x.all(1), 96 * 2 + 4);
    }

    private static void energyDown() {
        c.sentence("BASE less its weights times BACK by 10, but 0 at least, if it GOES down.");
        for (int base = 0; base <= 9; base++) {
            for (int back = 0; back <= 10; back++) {
                // weights by ticks: 4, 6, 6, 2
                StairsThatGo x = Check.day(3, 1, DOWN, "0db;1ds");
                x.set(BASE, base);
                x.set(BACK, back);
                int due = 96 * base;
                for (int weight : new int[] {4, 6, 6, 2}) {
                    due += Math.max(0, base - weight * back / 10);
                }
                c.due("base " + base + ", back " + back, x.all(1), due);
            }
        }
        c.sentence("Divisions are cut.");
        for (int back = 0; back <= 10; back++) {
            // weights by ticks: 2, 3, 3, 1
            StairsThatGo x = Check.day(3, 1, DOWN, "0ds;1dc");
            x.set(BACK, back);
            x.set(BASE, 9);
            int ofTwo = back == 10 ? 2 : back >= 5 ? 1 : 0;
            int ofThree = back == 10 ? 3 : back >= 7 ? 2 : back >= 4 ? 1 : 0;
            int ofOne = back == 10 ? 1 : 0;
            c.due("back " + back, x.all(1), 900 - ofTwo - 2 * ofThree - ofOne);
        }
    }

    private static void changeBetween() {
        c.sentence("A CHANGE may be told: at a TICK, between parts 1 and 2, WAYS of all STAIRS become others.");
        StairsThatGo x = Check.day(3, 1, 0, "0us;5us");
        x.change(5, UP);
        fates(x, "who comes then, too", 0, 5, 6);
        c.due("energy from it on", x.all(1), 95 * 2 + 2 + 4 + 4 + 2);
        for (int tick : new int[] {1, 99}) {
            x = Check.day(3, 1, 0, "0us;0us");
            x.change(tick, UP);
            c.due("a tick ahead of " + tick, x.at(tick - 1, 0), 3);
            c.due("at " + tick, x.at(tick, 0), 2);
        }
        // the same way again is none
        x = Check.day(10, 1, UP, "0us");
        x.change(5, UP);
        fates(x, "the same way", 2, 10);
    }

    private static void changeToStand() {
        c.sentence("Those on a STAIR that stands then are THROUGH in that TICK");
        StairsThatGo x = Check.day(3, 1, UP, "0us;1us;2us;3us;3us");
        // at 3, ahead of it, they are on steps 2, 1, 0
        x.change(3, 0);
        fates(x, "on every step", 2, 3, 3, 3, -4, -4);
        c.due("nobody is on it", x.at(3, 2), 0);
        c.due("nobody is on a landing", x.at(3, 1), 0);
        for (int step = 0; step < 3; step++) {
            c.due("nobody is on step " + step, x.on(3, 0, step, 0), -4);
        }
        c.due("no energy any more", x.all(1), 3 * 2 + 2 + 4 + 6);
        x = Check.day(3, 1, UP, "0us;1us;2us");
        x.set(LEAVE, 1);
        x.set(ROOM, 1);
        x.set(RULE, 0);
        x.change(99, 0);
        x.person(0, 0, 0);
        fates(x, "who jammed to the end", 2, 99, 99, 99, 99);
        // through though it rests
        x = Check.day(10, 1, UP, "0ub");
        x.set(LIMIT, 3);
        x.set(REST, 9);
        x.change(5, 0);
        fates(x, "from one that rests", 2, 5);
        // not from another one, nor from a landing
        x = Check.day(3, 1, UP, "0us;0us");
        Check.addStair(x, 3, 1, UP);
        x.set(LEAVE, 1);
        x.change(4, 0);
        fates(x, "from a landing", 2, 3, 4);
        x.change(2, 3);
        fates(x, "from the one of two that stands", 2, 2, 3);
    }

    private static void changeRound() {
        c.sentence("those on one that GOES the other way are on STEP LENGTH less 1 less s in place of s");
        for (int length = 3; length <= 10; length++) {
            for (int tick = 1; tick <= length; tick++) {
                StairsThatGo x = Check.day(length, 1, UP, "0us");
                x.change(tick, DOWN);
                // step tick - 1 becomes length - tick, and it goes one step on in this tick
                c.due("length " + length + ", turned at " + tick, x.fate(0, 2), 2 * tick - 1);
                c.due("its step then", tick == 1 ? 0 : x.on(tick, 0, length - tick + 1, 0), 0);
            }
            StairsThatGo x = Check.day(length, 1, UP, "0us");
            x.change(length + 1, DOWN);
            c.due("length " + length + ", turned too late", x.fate(0, 2), length);
        }
        // left stays left, bags stay on both
        StairsThatGo x = Check.day(10, 1, DOWN, "0dw;1db");
        x.change(2, UP);
        c.due("left", x.on(2, 0, 9, 1), 0);
        c.due("bags, right", x.at(2, 3), 2);
        c.sentence("and come to the FLOOR where it leads then (they go back, and are THROUGH there all the same).");
        // the landing of floor 1 takes one, that of floor 0 is theirs
        x = Check.day(3, 1, UP, "0us;0ds");
        Check.addStair(x, 3, 1, DOWN);
        x.set(ROOM, 1);
        x.set(LEAVE, 1);
        x.change(2, DOWN + 3 * DOWN);
        fates(x, "both to floor 0", 2, 3, 4);
        c.due("for which one jams", x.all(2), 1);
        c.due("from where they come", x.told(0, 1), 0);
    }

    private static void waits() {
        c.sentence("WAIT of one: from when it came till it stepped on; 100 less when it came, "
            + "if it still waits behind TICK 99.");
        fates(Check.day(3, 1, UP, "0us;0us;99us;99us"), "0, 1 and 99", 3, 0, 1, 0, 1);
        StairsThatGo x = Check.day(3, 1, 0, "");
        for (int tick = 0; tick <= 99; tick += 9) {
            x.person(tick, 0, 0);
        }
        for (int p = 0; p < x.count(1); p++) {
            c.due("who came at " + 9 * p, x.fate(p, 3), 100 - 9 * p);
        }
        c.due("together", x.all(0), 12 * 100 - 9 * 66);
        x.change(99, UP);
        c.due("the first stepped on at 99", x.fate(0, 3), 99);
        c.due("the second still waits", x.fate(1, 3), 91);
    }

    private static void fate() {
        c.sentence("0 when it stepped on (NONE: not), 1 which STAIR (NONE), 2 when it was THROUGH (NONE: not by 99), "
            + "3 WAIT, 4 whether it FELL (1, 0). BAD.");
        StairsThatGo x = Check.day(3, 1, UP, "96us;97us;0ds");
        int[][] due = {{96, 0, 99, 0, 0}, {97, 0, -4, 0, 0}, {-4, -4, -4, 100, 0}};
        for (int what = 0; what <= 4; what++) {
            fates(x, "just by 99, just not, not at all", what, due[0][what], due[1][what], due[2][what]);
        }
        c.refused("fate(0, what)", -1, 0, 4, what -> x.fate(0, what));
        for (int what = -1; what <= 5; what++) {
            int asked = what;
            c.refused("fate(person, " + what + ")", -1, 0, 2, person -> x.fate(person, asked));
        }
        x.strike(2);
        c.due("BAD is ahead of NONE", x.fate(2, 0), -1);
        StairsThatGo third = Check.day(3, 1, 0, "0us");
        Check.addStair(third, 3, 1, 0);
        Check.addStair(third, 3, 1, UP);
        c.due("the third stair", third.fate(0, 1), 2);
    }

    private static void at() {
        c.sentence("Behind a TICK (0 .. 99): who waits (0), who is on LANDINGS (1), on STAIRS (2), THROUGH (3), as sets");
        StairsThatGo x = Check.day(3, 1, UP, Check.times(13, "0us") + "0us");
        c.refused("at(tick, 0)", -1, 0, 99, tick -> x.at(tick, 0));
        c.refused("at(tick, 4)", -1, 0, 99, tick -> x.at(tick, 4));
        c.refused("at(0, what)", -1, 0, 4, what -> x.at(0, what));
        c.due("waits behind 0", x.at(0, 0), 0x3FFE);
        c.due("on the stair behind 0", x.at(0, 2), 1);
        c.due("through behind 99", x.at(99, 3), 0x3FFF);
        x.of(0, 1, DOWN);
        c.due("waits behind 99", x.at(99, 0), 0x3FFF);
        StairsThatGo four = Check.day(3, 1, UP, "0us;0us;1us;4us;90ds");
        four.set(RULE, 0);
        four.set(LEAVE, 1);
        for (int tick = 0; tick <= 99; tick++) {
            int all = four.at(tick, 0) | four.at(tick, 1) | four.at(tick, 2) | four.at(tick, 3);
            int sum = four.at(tick, 0) + four.at(tick, 1) + four.at(tick, 2) + four.at(tick, 3);
            int come = tick < 1 ? 3 : tick < 4 ? 7 : tick < 90 ? 15 : 31;
            c.due("each in one of them behind " + tick, all, come);
            c.due("and in one alone behind " + tick, sum, come);
        }
        c.due("on a landing behind 3", four.at(3, 1), 2);
        c.sentence("how many TICKS each STAIR is TRIPPED yet, as digits in tens, STAIR 0 the lowest (4). BAD.");
        StairsThatGo trips = Check.day(3, 1, UP, "0ub;0ub;0ub");
        Check.addStair(trips, 3, 1, UP);
        Check.addStair(trips, 3, 1, UP);
        trips.set(LIMIT, 2);
        trips.set(REST, 9);
        c.due("all of them", trips.at(0, 4), 999);
        c.due("a tick on", trips.at(1, 4), 888);
        c.due("the last one", trips.at(8, 4), 111);
        c.due("none", trips.at(9, 4), 0);
        c.due("anew", trips.at(10, 4), 999);
        trips.of(0, 1, 0);
        c.due("two of them", trips.at(0, 4), 990);
        trips.of(1, 1, 0);
        c.due("the third alone", trips.at(0, 4), 900);
        c.due("no stairs", new StairsThatGo().at(99, 4), 0);
    }

    private static void on() {
        c.sentence("Behind a TICK who is on a STEP of a STAIR, on a PLACE (a BAGGED one is on both). "
            + "BAD: also beyond LENGTH; NONE: nobody.");
        StairsThatGo x = Check.day(10, 1, UP, "0us;1ub;0ds");
        Check.addStair(x, 3, 1, DOWN);
        c.refused("on(tick, 0, 0, 0)", -1, 0, 99, tick -> x.on(tick, 0, 0, 0));
        c.refused("on(0, stair, 0, 0)", -1, 0, 1, stair -> x.on(0, stair, 0, 0));
        c.refused("on(0, 0, step, 0)", -1, 0, 9, step -> x.on(0, 0, step, 0));
        c.refused("on(0, 1, step, 0)", -1, 0, 2, step -> x.on(0, 1, step, 0));
        c.refused("on(0, 0, 0, place)", -1, 0, 1, place -> x.on(0, 0, 0, place));
        c.due("the last step of the first", x.on(9, 0, 9, 0), 0);
        c.due("the last step of the second", x.on(2, 1, 2, 0), 2);
        c.due("nobody on the last step", x.on(0, 0, 9, 1), -4);
        c.due("nobody at the last tick", x.on(99, 0, 9, 1), -4);
        c.due("bags on the right", x.on(1, 0, 0, 0), 1);
        c.due("bags on the left", x.on(1, 0, 0, 1), 1);
        for (int length = 3; length <= 10; length++) {
            int last = length - 1;
            x.of(0, 0, length);
            c.due("the last step of " + length, x.on(0, 0, last, 0), -4);
            c.due("beyond " + length, x.on(0, 0, length, 0), -1);
        }
    }

    private static void all() {
        c.sentence("In all: 0 WAITS together, 1 ENERGY, 2 JAMS (how often one JAMMED), 3 how often one was TRIPPED, "
            + "4 who FELL (a set), 5 how many are THROUGH by 99, 6 when the last is (100: not all; 0: nobody). BAD.");
        StairsThatGo x = new StairsThatGo();
        c.refused("all(what)", -1, 0, 6, x::all);
        c.taken("all(what)", 0, 6, x::all);
        c.due("nobody: the last", x.all(6), 0);
        x.stair(3, 1);
        x.of(0, 1, UP);
        c.due("nobody by a stair: the last", x.all(6), 0);
        x.person(96, 0, 0);
        c.due("at 99", x.all(6), 99);
        c.due("one by 99", x.all(5), 1);
        x.person(96, 0, 0);
        x.set(RULE, 0);
        c.due("both by 99", x.all(5), 2);
        c.due("both at 99", x.all(6), 99);
        x.set(LEAVE, 1);
        c.due("one is on the landing then", x.all(6), 100);
        c.due("one by 99", x.all(5), 1);
        x.strike(0);
        x.person(0, 1, 0);
        c.due("not all", x.all(6), 100);
        StairsThatGo y = Check.day(3, 1, 0, Check.times(14, "0us"));
        c.due("waits of fourteen all day", y.all(0), 1400);
        c.due("none is through", y.all(5), 0);
        c.due("the last", y.all(6), 100);
        y.change(1, UP);
        c.due("all fourteen", y.all(5), 14);
        StairsThatGo z = Check.day(10, 2, UP, Check.times(12, "99ds") + "0us;0uw");
        z.set(LIMIT, 2);
        c.due("the fourteenth fell", z.all(4), 1 << 13);
        c.holds("and it tripped", z.all(3) > 0);
    }
}
