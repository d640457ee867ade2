/** Promises 12 to 15: fate, at, on, all; days worked out by hand. */
final class DayTest {
    private static final int UP = 1, DOWN = 2;
    private static Check c;

    public static void main(String[] args) {
        c = new Check("DayTest");
        bad();
        oneStanding();
        waiting();
        rule();
        walking();
        bagged();
        child();
        fearing();
        twoStairs();
        landings();
        jams();
        jamWithWalkers();
        trips();
        falls();
        energy();
        changes();
        toldAnew();
        leftOver();
        fourteen();
        c.end();
    }

    /** One stair that goes a way, and people. */
    private static StairsThatGo day(int length, int pace, int way, String people) {
        StairsThatGo x = new StairsThatGo();
        x.stair(length, pace);
        x.of(0, 1, way);
        if (!people.isEmpty()) {
            c.holds("people " + people, Check.people(x, people) > 0);
        }
        return x;
    }

    private static void fates(StairsThatGo x, String day, int what, int... due) {
        for (int p = 0; p < due.length; p++) {
            c.due(day + ": fate(" + p + ", " + what + ")", x.fate(p, what), due[p]);
        }
    }

    private static void alls(StairsThatGo x, String day, int... due) {
        for (int what = 0; what < due.length; what++) {
            c.due(day + ": all(" + what + ")", x.all(what), due[what]);
        }
    }

    private static void bad() {
        StairsThatGo x = day(3, 1, UP, "0us;1us");
        for (int bad : new int[] {Integer.MIN_VALUE, -1, 2, Integer.MAX_VALUE}) {
            c.due("fate(" + bad + ", 0)", x.fate(bad, 0), -1);
        }
        for (int bad : new int[] {Integer.MIN_VALUE, -1, 5, Integer.MAX_VALUE}) {
            c.due("fate(0, " + bad + ")", x.fate(0, bad), -1);
            c.due("at(0, " + bad + ")", x.at(0, bad), -1);
        }
        for (int bad : new int[] {Integer.MIN_VALUE, -1, 100, Integer.MAX_VALUE}) {
            c.due("at(" + bad + ", 0)", x.at(bad, 0), -1);
            c.due("on(" + bad + ", 0, 0, 0)", x.on(bad, 0, 0, 0), -1);
        }
        for (int bad : new int[] {Integer.MIN_VALUE, -1, 1, 3, Integer.MAX_VALUE}) {
            c.due("on(0, " + bad + ", 0, 0)", x.on(0, bad, 0, 0), -1);
        }
        for (int bad : new int[] {Integer.MIN_VALUE, -1, 3, 10, Integer.MAX_VALUE}) {
            c.due("on(0, 0, " + bad + ", 0)", x.on(0, 0, bad, 0), -1);
        }
        for (int bad : new int[] {Integer.MIN_VALUE, -1, 2, Integer.MAX_VALUE}) {
            c.due("on(0, 0, 0, " + bad + ")", x.on(0, 0, 0, bad), -1);
        }
        for (int bad : new int[] {Integer.MIN_VALUE, -1, 7, Integer.MAX_VALUE}) {
            c.due("all(" + bad + ")", x.all(bad), -1);
        }
        x.stair(10, 1);
        c.due("on(0, 1, 9, 1), within that one's length", x.on(0, 1, 9, 1), -4);
    }

    private static void oneStanding() {
        StairsThatGo x = day(3, 1, UP, "0us");
        fates(x, "one", 0, 0);
        fates(x, "one", 1, 0);
        fates(x, "one", 2, 3);
        fates(x, "one", 3, 0);
        fates(x, "one", 4, 0);
        for (int t = 0; t < 3; t++) {
            c.due("on(" + t + ", its step)", x.on(t, 0, t, 0), 0);
            c.due("on(" + t + ", the left of it)", x.on(t, 0, t, 1), -4);
            c.due("on(" + t + ", the next step)", x.on(t, 0, (t + 1) % 3, 0), -4);
            c.due("at(" + t + ", 2)", x.at(t, 2), 1);
            c.due("at(" + t + ", 3)", x.at(t, 3), 0);
        }
        c.due("at(3, 2)", x.at(3, 2), 0);
        c.due("at(3, 3)", x.at(3, 3), 1);
        c.due("at(99, 3)", x.at(99, 3), 1);
        alls(x, "one", 0, 206, 0, 0, 0, 1, 3);
        fates(day(5, 2, UP, "0us"), "five steps at pace 2", 2, 3);
        fates(day(4, 2, UP, "0us"), "four steps at pace 2", 2, 2);
        fates(day(10, 1, UP, "0us"), "ten steps", 2, 10);
        fates(day(10, 1, UP, "90us"), "too late", 2, -4);
        fates(day(10, 1, UP, "89us"), "just in time", 2, 99);
        c.due("not all", day(10, 1, UP, "0us;90us").all(6), 100);
        c.due("not all: how many", day(10, 1, UP, "0us;90us").all(5), 1);
        // for nobody a stair that goes the other way is of use
        x = day(3, 1, UP, "7ds");
        fates(x, "other way", 0, -4);
        fates(x, "other way", 1, -4);
        fates(x, "other way", 2, -4);
        fates(x, "other way", 3, 93);
        c.due("other way: at(6, 0)", x.at(6, 0), 0);
        c.due("other way: at(7, 0)", x.at(7, 0), 1);
        alls(x, "other way", 93, 200, 0, 0, 0, 0, 100);
        alls(day(3, 1, 0, "0us"), "a stair that stands", 100, 0, 0, 0, 0, 0, 100);
        alls(day(3, 1, UP, ""), "nobody", 0, 200, 0, 0, 0, 0, 0);
        fates(day(3, 1, DOWN, "4ds"), "down", 2, 7);
    }

    private static void waiting() {
        // who came first, then the lesser number
        StairsThatGo x = day(4, 1, UP, "1us;0us;0us;1us");
        fates(x, "row", 0, 2, 0, 1, 3);
        fates(x, "row", 3, 1, 0, 1, 2);
        c.due("row: all(0)", x.all(0), 4);
        c.due("row: at(0, 0)", x.at(0, 0), 4);
        c.due("row: at(1, 0)", x.at(1, 0), 9);
        c.due("row: at(2, 0)", x.at(2, 0), 8);
        c.due("row: at(3, 0)", x.at(3, 0), 0);
        c.due("last tick", day(4, 1, UP, "99us;99us").all(0), 1);
    }

    private static void rule() {
        StairsThatGo x = day(4, 1, UP, "0us;0us;0uw;0uw");
        fates(x, "rule 1", 0, 0, 1, 0, 1);
        c.due("right", x.on(0, 0, 0, 0), 0);
        c.due("left", x.on(0, 0, 0, 1), 2);
        x.set(0, 0);
        fates(x, "rule 0", 0, 0, 0, 1, 1);
        c.due("right", x.on(0, 0, 0, 0), 0);
        c.due("left", x.on(0, 0, 0, 1), 1);
        c.due("right, next", x.on(1, 0, 0, 0), 2);
        c.due("left, next", x.on(1, 0, 0, 1), 3);
    }

    private static void walking() {
        fates(day(5, 1, UP, "0uw"), "walks", 2, 3);
        fates(day(5, 2, UP, "0uw"), "walks, quick", 2, 2);
        StairsThatGo x = day(6, 1, UP, "0uw;1uw;1uw");
        // two behind one another both walk: from the last step back
        c.due("first at 1", x.on(1, 0, 2, 1), 0);
        c.due("second at 1", x.on(1, 0, 0, 1), 1);
        c.due("first at 2", x.on(2, 0, 4, 1), 0);
        c.due("second at 2", x.on(2, 0, 2, 1), 1);
        c.due("first at 3 has no next step", x.on(3, 0, 5, 1), 0);
        fates(x, "walkers", 2, 4, 5, 6);
        // on the right a walking one stands
        x = day(5, 1, UP, "0uw");
        x.set(0, 0);
        c.due("by rule 0 on the right", x.on(0, 0, 0, 0), 0);
        fates(x, "by rule 0", 2, 5);
        // a bagged one is in the way
        x = day(6, 1, UP, "0ub;1uw");
        c.due("behind bags", x.on(2, 0, 1, 1), 1);
        fates(x, "behind bags", 2, 6, 7);
    }

    private static void bagged() {
        StairsThatGo x = day(4, 1, UP, "0ub;0uw;0us");
        c.due("right", x.on(0, 0, 0, 0), 0);
        c.due("left", x.on(0, 0, 0, 1), 0);
        c.due("right, a step on", x.on(1, 0, 1, 0), 0);
        c.due("left, a step on", x.on(1, 0, 1, 1), 0);
        fates(x, "bags first", 0, 0, 1, 1);
        c.due("energy", x.all(1), 200 + 4 + 8 + 8 + 8 + 4);
        // not on a left place that is left
        x = day(4, 1, UP, "0us;0ub;0us");
        x.set(0, 0);
        fates(x, "bags second by rule 0", 0, 0, 1, 0);
        // who has bags is one of the people when the landing gets full
        x = day(3, 1, UP, "0ub");
        x.set(1, 1);
        fates(x, "bags onto a landing for one", 2, 3);
    }

    private static void child() {
        fates(day(4, 1, UP, "5uc"), "alone", 3, 95);
        fates(day(4, 1, UP, "0uc;0us"), "behind", 0, 1, 0);
        fates(day(4, 1, UP, "0ub;0uc"), "behind bags", 0, 0, 1);
        fates(day(4, 1, UP, "0us;2uc"), "too far behind", 0, 0, -4);
        fates(day(4, 2, UP, "0us;0uc"), "behind at pace 2", 0, 0, -4);
        fates(day(4, 1, UP, "0us;0uc;0uc"), "behind a child", 0, 0, 1, -4);
        fates(day(6, 1, UP, "0uw;0uc"), "behind one who walks off", 0, 0, -4);
        StairsThatGo x = day(4, 2, UP, "0uc;0us");
        x.set(0, 0);
        fates(x, "beside", 0, 0, 0);
        c.due("on the left", x.on(0, 0, 0, 1), 0);
        c.due("on the right", x.on(0, 0, 0, 0), 1);
        // a grown one on the left of step 1, who would walk, but for the bags ahead
        fates(day(6, 1, UP, "0ub;1uw;2uc"), "behind the left", 0, 0, 1, 2);
        // a child that is alone by then still goes on
        fates(day(4, 1, UP, "0us;0uc"), "behind", 2, 4, 5);
        x = day(4, 1, UP, "0uc;0uc;0us");
        x.set(0, 0);
        // the second one sits behind the grown one, who is on step 1 then
        fates(x, "one beside, one behind", 0, 0, 1, 0);
    }

    private static void fearing() {
        fates(day(4, 1, UP, "3uf"), "slow", 0, 3);
        fates(day(4, 2, UP, "3uf"), "quick", 0, -4);
        StairsThatGo x = day(4, 2, UP, "0uf;0us");
        fates(x, "lets others go ahead", 0, -4, 0);
        x.stair(5, 1);
        x.of(1, 1, UP);
        fates(x, "takes the slow one", 1, 1, 0);
    }

    private static void twoStairs() {
        StairsThatGo x = day(3, 1, UP, "0us;0us;0ds;0ds");
        x.stair(5, 1);
        x.of(1, 1, UP);
        x.stair(4, 1);
        x.of(2, 1, DOWN);
        fates(x, "three stairs", 1, 0, 1, 2, 2);
        fates(x, "three stairs", 2, 3, 5, 4, 5);
        c.due("energy", x.all(1), 200 + 6 + 200 + 10 + 200 - (1 + 2 + 2 + 2 + 1));
    }

    private static void landings() {
        StairsThatGo x = day(3, 1, UP, "1us;0us;0us");
        x.set(0, 0);
        x.set(2, 1);
        // the third came to the landing a tick ahead of the first
        fates(x, "one leaves a tick", 2, 5, 3, 4);
        c.due("at(3, 1)", x.at(3, 1), 4);
        c.due("at(4, 1)", x.at(4, 1), 1);
        c.due("at(5, 1)", x.at(5, 1), 0);
        c.due("at(4, 3)", x.at(4, 3), 6);
        x.set(2, 3);
        fates(x, "three leave a tick", 2, 4, 3, 3);
        // each floor has a landing of its own
        x = day(3, 1, UP, "0us;0ds");
        x.stair(3, 1);
        x.of(1, 1, DOWN);
        x.set(1, 1);
        x.set(2, 1);
        fates(x, "two floors", 2, 3, 3);
        // of like ticks the lesser number, from whichever stair
        x = day(3, 1, UP, "0us;0us");
        x.stair(3, 1);
        x.of(1, 1, UP);
        x.set(2, 1);
        fates(x, "two stairs", 2, 3, 4);
        // stair 0 fills the landing, stair 1 jams
        x.set(1, 1);
        c.due("jams of the second stair", x.all(2), 1);
        fates(x, "two stairs, one place", 2, 3, 4);
    }

    private static void jams() {
        StairsThatGo x = day(3, 1, UP, "0us;0us;0us;0us");
        x.set(0, 0);
        x.set(1, 2);
        x.set(2, 1);
        fates(x, "a jam of one tick", 2, 3, 4, 5, 6);
        c.due("a jam of one tick", x.all(2), 1);
        c.due("stays on its step", x.on(4, 0, 2, 1), 3);
        c.due("energy goes on", x.all(1), 200 + 4 + 8 + 8 + 4 + 4);
        x.set(1, 1);
        fates(x, "a jam without end", 2, -4, -4, -4, -4);
        c.due("a jam without end", x.all(2), 97);
        // at pace 2 a stair may jam behind its first step
        x = day(4, 2, UP, "0us;0us");
        x.set(0, 0);
        x.set(1, 1);
        c.due("one step on", x.on(2, 0, 3, 0), 0);
        c.due("and no more", x.on(99, 0, 3, 1), 1);
        c.due("counted once a tick", x.all(2), 98);
        // one on the left alone is one
        x = day(3, 1, UP, "0uw");
        x.set(1, 1);
        c.due("one on the left", x.all(2), 0);
        fates(x, "one on the left", 2, 2);
        x = day(3, 1, UP, "0uw;0uw");
        x.stair(3, 1);
        x.of(1, 1, UP);
        x.set(1, 1);
        fates(x, "one on the left of each stair", 2, 2, 3);
        c.due("one on the left of each stair", x.all(2), 1);
        x = day(3, 1, UP, "1uw;0us");
        x.set(1, 1);
        c.due("one on either side", x.all(2), 97);
        // while it is jammed, one steps on where it is free
        x = day(3, 1, UP, "0us;0us;2us;3us;4us");
        x.set(0, 0);
        x.set(1, 1);
        fates(x, "onto a stair that jams", 0, 0, 0, 2, 3, -4);
    }

    private static void jamWithWalkers() {
        StairsThatGo x = day(3, 1, UP, "0us;1uw;2uw;3uw;4ub;4us");
        x.set(1, 1);
        c.due("both on the last step, right", x.on(2, 0, 2, 0), 0);
        c.due("both on the last step, left", x.on(2, 0, 2, 1), 1);
        c.due("one still walks a step", x.on(3, 0, 1, 1), 2);
        c.due("the next can't", x.on(4, 0, 0, 1), 3);
        c.due("bags want both places", x.fate(4, 0), -4);
        c.due("who stands takes the right one", x.on(4, 0, 0, 0), 5);
        c.due("at(99, 0)", x.at(99, 0), 16);
        c.due("at(99, 2)", x.at(99, 2), 47);
        alls(x, "jam", 96, 200 + 2 + 4 + 6 + 8 + 960, 97, 0, 0, 0, 100);
        // the same, by other numbers
        x = day(3, 1, UP, "3uw;0us;1uw;2uw;4ub;4us");
        x.set(1, 1);
        fates(x, "jam again", 0, 3, 0, 1, 2, -4, 4);
    }

    private static void trips() {
        StairsThatGo x = day(5, 1, UP, "0us;1us");
        x.set(3, 3);
        x.set(4, 2);
        int[] yet = {0, 2, 1, 0, 2, 1, 0, 2, 1, 0, 2, 1, 0, 0, 0};
        for (int t = 0; t < yet.length; t++) {
            c.due("trips: at(" + t + ", 4)", x.at(t, 4), yet[t]);
        }
        fates(x, "trips", 2, 13, 14);
        alls(x, "trips", 0, 184 + 2 + 4 + 4 + 4 + 4 + 2, 0, 4, 0, 2, 14);
        c.due("rests", x.on(3, 0, 1, 0), 0);
        c.due("goes on", x.on(4, 0, 2, 0), 0);
        // nobody steps on one that rests
        x.person(2, 0, 0);
        fates(x, "waits for it", 0, 0, 1, 4);
        // as much as the limit is not too much
        x = day(5, 1, UP, "0us;1us");
        x.set(3, 4);
        c.due("just the limit", x.all(3), 0);
        // the digits of the second stair
        x = day(5, 1, UP, "0ds;1ds;9us");
        x.stair(5, 1);
        x.of(1, 1, DOWN);
        x.set(3, 3);
        x.set(4, 9);
        c.due("second stair: at(1, 4)", x.at(1, 4), 90);
        c.due("second stair: at(2, 4)", x.at(2, 4), 80);
        x.stair(5, 1);
        x.of(2, 1, DOWN);
        x.of(1, 1, 0);
        c.due("third stair: at(1, 4)", x.at(1, 4), 900);
    }

    private static void falls() {
        StairsThatGo x = day(10, 2, UP, "0us;0uw;5uw");
        x.set(3, 3);
        x.set(4, 4);
        fates(x, "falls", 4, 0, 1, 1);
        c.due("falls", x.all(4), 6);
        c.due("kind as told", x.told(1, 2), 1);
        c.due("walks no more", x.on(5, 0, 2, 1), 1);
        x = day(10, 2, UP, "0uw;0us");
        x.set(3, 3);
        fates(x, "the first falls", 4, 1, 0);
        c.due("the first falls", x.all(4), 1);
        x = day(10, 2, UP, "0us;0uw;5uw");
        x.set(3, 3);
        x.set(4, 4);
        // at pace 1 nobody falls
        x.of(0, 2, 1);
        c.due("slow", x.all(4), 0);
        c.holds("but it trips", x.all(3) > 0);
        fates(x, "slow", 4, 0, 0, 0);
        // one who stands is no faller, nor is one on the stair that did not trip
        x = day(10, 2, UP, "0ub;0dw");
        x.stair(10, 2);
        x.of(1, 1, DOWN);
        x.set(3, 3);
        c.holds("trips", x.all(3) > 0);
        c.due("others do not fall", x.all(4), 0);
    }

    private static void energy() {
        c.due("down", day(3, 1, DOWN, "0ds").all(1), 197);
        // of weight 3 by 5 tenths one comes back, of weight 1 none
        c.due("cut", day(3, 1, DOWN, "0ds;1dc").all(1), 197);
        StairsThatGo x = day(3, 1, DOWN, "0db;0ds");
        c.due("not below 0", x.all(1), 0 + 0 + 0 + 1 + 96 * 2);
        x.set(5, 0);
        c.due("base 0", x.all(1), 0);
        x.set(6, 0);
        x.set(5, 9);
        c.due("nothing back", x.all(1), 900);
        x.set(6, 10);
        c.due("all back", x.all(1), 900 - 4 - 6 - 6 - 2);
        x.set(6, 9);
        c.due("nine tenths back", x.all(1), 900 - 3 - 5 - 5 - 1);
        x.of(0, 1, 0);
        c.due("one that stands", x.all(1), 0);
    }

    private static void changes() {
        // a stair that stands lets all through at once
        StairsThatGo x = day(10, 1, UP, "0us;1ub;4us");
        x.change(4, 0);
        fates(x, "stands", 2, 4, 4, -4);
        fates(x, "stands", 3, 0, 0, 96);
        c.due("stands: at(3, 2)", x.at(3, 2), 3);
        c.due("stands: at(4, 2)", x.at(4, 2), 0);
        c.due("stands: at(4, 3)", x.at(4, 3), 3);
        c.due("stands: on(4, 0, 3, 0)", x.on(4, 0, 3, 0), -4);
        c.due("stands: energy", x.all(1), 8 + 2 + 6 + 6 + 6);
        // but for those on another one, or who are through
        x = day(3, 1, UP, "0us;10us;10us");
        x.stair(10, 1);
        x.of(1, 1, UP);
        x.change(12, 3);
        fates(x, "one of two stands", 2, 3, 12, 20);
        x = day(10, 1, UP, "0us");
        x.change(9, 2);
        c.due("from step 8 to 1, and one more", x.on(9, 0, 2, 0), 0);
        c.due("not on 8 any more", x.on(9, 0, 9, 0), -4);
        fates(x, "turns late", 2, 17);
        // the other way round: on step 6 in place of 3, and one more in that tick
        x = day(10, 1, UP, "0us;1ub;3uw;4ds");
        x.change(4, 2);
        c.due("turns: on(3, 0, 3, 0)", x.on(3, 0, 3, 0), 0);
        c.due("turns: on(4, 0, 7, 0)", x.on(4, 0, 7, 0), 0);
        c.due("turns: bags, right", x.on(4, 0, 8, 0), 1);
        c.due("turns: bags, left", x.on(4, 0, 8, 1), 1);
        fates(x, "turns", 2, 7, 6, 4, 14);
        fates(x, "turns", 0, 0, 1, 3, 4);
        // they come to the floor that it leads to then: its landing is full there
        x = day(3, 1, UP, "0us;0us;0ds;0ds");
        x.stair(3, 1);
        x.of(1, 1, DOWN);
        x.set(0, 0);
        x.set(1, 2);
        x.set(2, 1);
        c.due("two landings, no jam", x.all(2), 0);
        x.change(2, 2 + 6);
        fates(x, "one landing", 2, 3, 4, 5, 6);
        c.due("one landing, two jams", x.all(2), 2);
        // the same way again is no change
        x = day(10, 1, UP, "0us");
        x.change(4, 1);
        fates(x, "the same", 2, 10);
        // a stair that stood begins in its tick, for one who comes then too
        x = day(5, 1, 0, "0us;9us");
        x.change(9, 1);
        fates(x, "begins", 0, 9, 10);
        c.due("begins: energy", x.all(1), 91 * 2 + 2 + 4 + 4 + 4 + 4 + 2);
        // digits in threes, the lowest of stair 0
        x = day(3, 1, 0, "0us;0ds");
        x.stair(4, 1);
        x.stair(5, 1);
        x.change(2, 9 + 6);
        fates(x, "digits", 1, 2, 1);
        fates(x, "digits", 0, 2, 2);
        // a stair that rests goes on resting the other way
        x = day(10, 1, UP, "0ub");
        x.set(3, 3);
        x.set(4, 9);
        x.change(5, 2);
        c.due("rests: at(5, 4)", x.at(5, 4), 4);
        c.due("rests: on(5, 0, 9, 0)", x.on(5, 0, 9, 0), 0);
        fates(x, "rests", 2, 10);
    }

    /** What one call ran through leaves nothing to the next one. */
    private static void leftOver() {
        StairsThatGo x = day(3, 1, UP, "0us;0us");
        x.set(0, 0);
        x.set(1, 2);
        x.set(2, 1);
        for (int k = 0; k < 3; k++) {
            c.due("one on the landing", x.at(3, 1), 2);
            c.due("the other is through", x.at(3, 3), 1);
            c.due("nobody on the stair", x.at(3, 2), 0);
        }
        x.set(3, 3);
        x.set(4, 1);
        int trips = x.all(3);
        c.due("trips", trips, 3);
        x.set(5, 3);
        c.due("trips again", x.all(3), trips);
        c.due("trips at 0", x.at(0, 4), 1);
        c.due("trips at 0 again", x.at(0, 4), 1);
        c.due("jams", x.all(2), 0);
        // a stair in the place of one that an image did not have stands
        x = new StairsThatGo();
        x.image();
        x.stair(5, 1);
        x.of(0, 1, 2);
        x.restore();
        x.stair(6, 2);
        c.due("stands", x.of(0, 1, 1), 0);
        c.due("length", x.of(0, 0, 3), 6);
        c.due("pace", x.of(0, 2, 1), 2);
    }

    private static void fourteen() {
        StairsThatGo x = day(10, 1, UP, "0us;0us;0us;0us;0us;0us;0us");
        Check.people(x, "0us;0us;0us;0us;0us;0us;0us");
        x.set(3, 40);
        alls(x, "fourteen", 91, 200 + 280, 0, 0, 0, 14, 23);
        c.due("at(5, 0)", x.at(5, 0), 0x3FC0);
        c.due("at(5, 2)", x.at(5, 2), 0x3F);
        c.due("at(99, 3)", x.at(99, 3), 0x3FFF);
        c.due("ways(0)", x.ways(0), 1);
        c.due("ways(1)", x.ways(1), 91);
        c.due("best(5, 0)", x.best(5, 0), 1);
        c.due("best(5, 1)", x.best(5, 1), 1);
        c.due("best(5, 2)", x.best(5, 2), 91);
        c.due("thrift(99, 0)", x.thrift(99, 0), 1);
        c.due("thrift(99, 1)", x.thrift(99, 1), 340);
        c.due("costs(0)", x.costs(0), 13);
        c.due("costs(13)", x.costs(13), 0);
        c.due("rules()", x.rules(), 42 - 91);
        fates(x, "fourteen", 2, 10, 11, 12, 13, 14, 15, 16, 17, 18, 19, 20, 21, 22, 23);
        x.change(8, 0);
        fates(x, "fourteen, eight at once", 2, 8, 8, 8, 8, 8, 8, 8, 8, -4, -4, -4, -4, -4, -4);
        x.change(0, 0);
        x.of(0, 2, 2);
        x.set(3, 3);
        c.holds("trips", x.all(3) > 0);
        c.due("nobody walked", x.all(4), 0);
        x.image();
        for (int p = 13; p >= 0; p--) {
            c.due("strike(" + p + ")", x.strike(p), p);
        }
        x.restore();
        c.due("strike(0)", x.strike(0), 13);
        for (int k = 0; k < 13; k++) {
            x.strike(0);
        }
        for (int p = 0; p < 14; p++) {
            x.person(0, 0, 2);
        }
        x.of(0, 1, 0);
        c.due("all wait, with bags", x.at(50, 0), 0x3FFF);
        x.of(0, 1, 1);
        x.set(1, 9);
        x.set(3, 40);
        c.due("bags: all(0)", x.all(0), 91);
    }

    private static void toldAnew() {
        StairsThatGo x = day(4, 1, UP, "0us;0us");
        c.due("all(6)", x.all(6), 5);
        x.of(0, 0, 8);
        c.due("of told anew", x.all(6), 9);
        x.set(0, 0);
        c.due("set told anew", x.all(6), 8);
        x.change(2, 0);
        c.due("change told anew", x.all(6), 2);
        x.change(0, 0);
        c.due("no change any more", x.all(6), 8);
        x.person(20, 0, 0);
        c.due("person told anew", x.all(6), 28);
        x.image();
        x.strike(2);
        c.due("strike told anew", x.all(6), 8);
        Check.people(x, "30us");
        c.due("people told anew", x.all(6), 38);
        x.restore();
        c.due("restore told anew", x.all(6), 28);
        x.of(0, 1, 0);
        c.due("way told anew", x.all(6), 100);
        x.stair(3, 1);
        x.of(1, 1, 1);
        c.due("stair told anew", x.all(6), 23);
    }
}
