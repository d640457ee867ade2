/** Promises 16 to 20, 22 and 23: ways, best, thrift, costs, rules, image, restore. */
final class WouldBeTest {
    private static final int MIN = Integer.MIN_VALUE, MAX = Integer.MAX_VALUE;
    private static Check c;

    public static void main(String[] args) {
        c = new Check("WouldBeTest");
        noStairs();
        ways();
        best();
        thrift();
        costs();
        rules();
        image();
        c.end();
    }

    private static StairsThatGo stairs(int... lengthsAndPaces) {
        StairsThatGo x = new StairsThatGo();
        for (int k = 0; k < lengthsAndPaces.length; k += 2) {
            x.stair(lengthsAndPaces[k], lengthsAndPaces[k + 1]);
        }
        return x;
    }

    private static void noStairs() {
        StairsThatGo x = new StairsThatGo();
        x.person(0, 0, 0);
        for (int bad : new int[] {MIN, -1, 2, MAX}) {
            c.due("BAD is ahead of NOT: ways(" + bad + ")", x.ways(bad), -1);
            c.due("BAD is ahead of NOT: thrift(0, " + bad + ")", x.thrift(0, bad), -1);
        }
        for (int bad : new int[] {MIN, -1, 3, MAX}) {
            c.due("BAD is ahead of NOT: best(1, " + bad + ")", x.best(1, bad), -1);
        }
        for (int bad : new int[] {MIN, -1, 100, MAX}) {
            c.due("BAD is ahead of NOT: best(" + bad + ", 0)", x.best(bad, 0), -1);
            c.due("BAD is ahead of NOT: thrift(" + bad + ", 0)", x.thrift(bad, 0), -1);
        }
        c.due("BAD is ahead of NOT: best(0, 0)", x.best(0, 0), -1);
        for (int what = 0; what < 2; what++) {
            c.due("NOT: ways", x.ways(what), -2);
            c.due("NOT: thrift", x.thrift(0, what), -2);
            c.due("NOT: thrift(99)", x.thrift(99, what), -2);
        }
        for (int what = 0; what < 3; what++) {
            c.due("NOT: best(1)", x.best(1, what), -2);
            c.due("NOT: best(99)", x.best(99, what), -2);
        }
        c.due("costs(0)", x.costs(0), 0);
        c.due("rules()", x.rules(), 0);
        x.stair(3, 1);
        c.due("BAD: ways(2)", x.ways(2), -1);
        c.due("BAD: best(1, 3)", x.best(1, 3), -1);
        c.due("BAD: best(0, 0)", x.best(0, 0), -1);
        c.due("BAD: best(100, 0)", x.best(100, 0), -1);
        c.due("BAD: thrift(100, 0)", x.thrift(100, 0), -1);
        c.due("BAD: thrift(0, 2)", x.thrift(0, 2), -1);
    }

    private static void both(StairsThatGo x, String name, int best, int least) {
        c.due(name + ": ways(0)", x.ways(0), best);
        c.due(name + ": ways(1)", x.ways(1), least);
    }

    private static void ways() {
        both(stairs(3, 1, 3, 1, 3, 1), "nobody", 0, 0);
        StairsThatGo x = stairs(3, 1);
        Check.people(x, "0us;0ds");
        both(x, "of like ones the least", 1, 100);
        x.person(0, 1, 0);
        both(x, "more who want down", 2, 101);
        x.stair(3, 1);
        x.strike(2);
        both(x, "down and up", 5, 0);
        x.stair(3, 2);
        both(x, "the third need not go", 5, 0);
        x.strike(0);
        x.strike(0);
        Check.people(x, "0uf;0uf;0ds");
        both(x, "fear: slow ones up, the quick one down", 1 + 3 + 18, 0);
        // a change that was told is not part of it, nor are ways that were
        x = stairs(3, 1);
        Check.people(x, "0us;0us;50ds");
        x.change(10, 2);
        x.of(0, 1, 2);
        both(x, "no change", 1, 51);
        c.due("which stays told", x.change(10, 2), 10);
        c.due("ways stay told", x.of(0, 1, 2), 2);
        // settings are
        x.set(0, 0);
        both(x, "by rule 0", 1, 50);
    }

    private static void threes(StairsThatGo x, int tick, int before, int after, int sum) {
        String name = "best(" + tick + ", ";
        c.due(name + "2)", x.best(tick, 2), sum);
        c.due(name + "0)", x.best(tick, 0), before);
        c.due(name + "1)", x.best(tick, 1), after);
    }

    private static void best() {
        threes(stairs(3, 1, 3, 1, 3, 1), 7, 0, 0, 0);
        StairsThatGo x = stairs(3, 1);
        Check.people(x, "0us;50ds");
        threes(x, 1, 1, 2, 0);
        threes(x, 50, 1, 2, 0);
        threes(x, 60, 1, 2, 10);
        threes(x, 99, 1, 2, 49);
        x.change(30, 0);
        x.of(0, 1, 2);
        threes(x, 60, 1, 2, 10);
        c.due("the change stays told", x.change(0, 0), 30);
        c.due("the way stays told", x.of(0, 1, 0), 2);
        // told anew, found anew
        x.person(50, 1, 0);
        threes(x, 60, 1, 2, 21);
        x.image();
        x.set(0, 0);
        threes(x, 60, 1, 2, 20);
        x.restore();
        threes(x, 60, 1, 2, 21);
        x.strike(0);
        threes(x, 60, 2, 0, 1);
        x.stair(3, 1);
        threes(x, 60, 8, 0, 0);
        x.of(0, 0, 4);
        threes(x, 60, 8, 0, 0);
        Check.people(x, "50us");
        threes(x, 60, 5, 0, 1);
        // of like ones the least before, then the least from it on
        x = stairs(3, 1);
        Check.people(x, "0us;0ds");
        threes(x, 1, 1, 2, 1);
        threes(x, 40, 1, 2, 40);
        x = stairs(3, 1);
        x.person(70, 0, 0);
        threes(x, 70, 0, 1, 0);
        threes(x, 71, 1, 0, 0);
        x = stairs(3, 1);
        Check.people(x, "70us;70us");
        threes(x, 60, 0, 1, 1);
        // a stair that rests at the tick rests on
        x = stairs(10, 1);
        x.set(3, 3);
        x.set(4, 9);
        Check.people(x, "0ub;0us");
        threes(x, 5, 1, 1, 10);
        threes(x, 1, 1, 1, 10);
        // going up from the first on it jams ahead of the last one; from the tick on it takes all, and jams then
        x = stairs(3, 1);
        x.set(0, 0);
        x.set(1, 1);
        Check.people(x, "0us;0us;2us;2us;4us");
        threes(x, 5, 0, 1, 5 + 5 + 4 + 4 + 3);
        threes(x, 3, 0, 1, 3 + 3 + 2 + 2 + 1);
        x.set(1, 2);
        threes(x, 3, 1, 1, 0);
        // people on a stair that is turned wait no more
        x = stairs(10, 1);
        Check.people(x, "0us;1us;2ds");
        threes(x, 2, 1, 2, 0);
    }

    private static void thrifts(StairsThatGo x, int tick, int paces, int energy) {
        c.due("thrift(" + tick + ", 0)", x.thrift(tick, 0), paces);
        c.due("thrift(" + tick + ", 1)", x.thrift(tick, 1), energy);
    }

    private static void thrift() {
        StairsThatGo x = stairs(3, 1);
        x.of(0, 1, 1);
        thrifts(x, 0, 0, 200);
        x.person(0, 0, 0);
        thrifts(x, 99, 1, 204);
        thrifts(x, 2, 1, 204);
        thrifts(x, 1, -4, -4);
        thrifts(x, 0, -4, -4);
        // whom it brings down gives more back by the slow one
        x = stairs(3, 2);
        x.of(0, 1, 2);
        x.person(0, 1, 0);
        thrifts(x, 3, 0, 197);
        thrifts(x, 2, 1, 198);
        thrifts(x, 1, -4, -4);
        c.due("the pace stays told", x.of(0, 2, 2), 2);
        // digits in twos; a stair that stands has PACE 1, the least
        x.stair(3, 1);
        x.stair(5, 1);
        x.of(2, 1, 1);
        x.person(0, 0, 0);
        thrifts(x, 99, 4, 197 + 206);
        thrifts(x, 2, -4, -4);
        x.of(2, 0, 4);
        thrifts(x, 3, 4, 197 + 204);
        thrifts(x, 2, 5, 198 + 204);
        // all must be through, one fears
        x = stairs(3, 1);
        x.of(0, 1, 1);
        x.person(0, 0, 4);
        thrifts(x, 99, 0, 206);
        thrifts(x, 2, -4, -4);
        x.person(0, 1, 0);
        thrifts(x, 99, -4, -4);
        // the change that was told is part of it
        x.strike(1);
        x.change(2, 0);
        thrifts(x, 2, 0, 4 + 4);
    }

    private static void costs() {
        StairsThatGo x = stairs(3, 1);
        for (int bad : new int[] {MIN, -1, 0, MAX}) {
            c.due("costs(" + bad + ")", x.costs(bad), -100001);
        }
        x.of(0, 1, 1);
        Check.people(x, "0us;0us;0us");
        c.due("the first", x.costs(0), 2);
        c.due("the second", x.costs(1), 1);
        c.due("the third", x.costs(2), 0);
        c.due("there is none", x.costs(3), -100001);
        c.due("all come yet", x.count(1), 3);
        c.due("all(0)", x.all(0), 3);
        x = stairs(3, 1);
        x.of(0, 1, 1);
        Check.people(x, "0us;0uc");
        c.due("a grown one helps a child", x.costs(0), 1 - 100);
        c.due("the child costs none", x.costs(1), 0);
        x.change(1, 0);
        c.due("with the change that was told", x.costs(0), 0);
    }

    private static void rules() {
        StairsThatGo x = stairs(3, 1);
        x.of(0, 1, 1);
        Check.people(x, "0us;0us;0us");
        c.due("rules()", x.rules(), 1 - 3);
        x.set(0, 0);
        c.due("rules() by rule 0", x.rules(), 1 - 3);
        c.due("the rule stays told", x.set(0, 1), 0);
        // who stands on the left is in the way of none here, but by rule 1 the walker has a place of its own
        x = stairs(10, 1);
        x.of(0, 1, 1);
        Check.people(x, "0us;0uw;0us;0uw");
        c.due("rules(), even", x.rules(), 0);
        // two that step on by rule 0 are too heavy, and the third waits for it
        x = stairs(10, 1);
        x.of(0, 1, 1);
        x.set(3, 3);
        x.set(4, 9);
        Check.people(x, "0us;0us;1us");
        c.due("rules(), above 0", x.rules(), 9 - (1 + 10));
        x.change(5, 0);
        c.due("rules(), with the change", x.rules(), 99 - (1 + 99));
        x = stairs(3, 1);
        x.of(0, 1, 1);
        x.set(1, 1);
        Check.people(x, "0us;0us;1us;2us;3us;4us");
        // by rule 0 two come to a landing for one, and the last of all does not get on any more
        c.due("rules(), a jam", x.rules(), 96 - (0 + 1 + 1 + 1 + 1 + 1));
    }

    private static void image() {
        StairsThatGo x = stairs(5, 2);
        c.due("no image yet", x.restore(), -4);
        x.of(0, 1, 1);
        x.set(5, 7);
        x.change(30, 1);
        Check.people(x, "0us;1uw");
        c.due("image()", x.image(), 1);
        int energy = x.all(1);
        x.of(0, 0, 9);
        x.of(0, 1, 2);
        x.of(0, 2, 1);
        x.stair(3, 1);
        for (int what = 0; what < 7; what++) {
            x.set(what, what == 3 ? 2 : 1);
        }
        x.change(40, 26);
        x.strike(0);
        x.person(9, 1, 3);
        x.person(9, 1, 2);
        x.sheet(1, 1, 3);
        Check.type(x, "7d");
        c.due("restore()", x.restore(), 1);
        c.due("count(0)", x.count(0), 1);
        c.due("count(1)", x.count(1), 2);
        c.due("count(2)", x.count(2), 2);
        c.due("told(0, 0)", x.told(0, 0), 0);
        c.due("told(1, 0)", x.told(1, 0), 1);
        c.due("told(1, 2)", x.told(1, 2), 1);
        c.due("told(2, 0)", x.told(2, 0), -1);
        c.due("all(1)", x.all(1), energy);
        c.due("the tape goes on", x.type('s', 1), 3);
        c.due("and is as it was", x.people(), 1);
        c.due("a sheet stays", x.drop(1), 3);
        c.due("length", x.of(0, 0, 4), 5);
        c.due("way", x.of(0, 1, 0), 1);
        c.due("pace", x.of(0, 2, 1), 2);
        int[] settings = {1, 4, 2, 12, 3, 7, 5};
        for (int what = 0; what < 7; what++) {
            c.due("set(" + what + ")", x.set(what, settings[what]), settings[what]);
        }
        c.due("change", x.change(0, 0), 30);
        x.change(30, 26);
        c.due("restore() for the ways of the change", x.restore(), 1);
        x.person(29, 0, 0);
        x.of(0, 0, 10);
        c.due("who rides on by the ways of the change", x.at(30, 2), 4);
        c.due("restore() again", x.restore(), 1);
        c.due("length again", x.of(0, 0, 4), 5);
        c.due("change again", x.change(30, 2), 30);
        c.due("people again", x.count(1), 2);
        x.restore();
        x.strike(0);
        c.due("a new image", x.image(), 1);
        x.strike(0);
        c.due("restore() of the new one", x.restore(), 1);
        c.due("people of the new one", x.count(1), 1);
        c.due("told(0, 0) of the new one", x.told(0, 0), 1);
    }
}
