import java.util.ArrayList;
import java.util.List;
import java.util.function.ToIntFunction;

/** The order of the answers below 0, and that what is refused changes nothing, but as told. */
final class BoundsRefusedTest {
    private static final int MIN = Integer.MIN_VALUE, MAX = Integer.MAX_VALUE;
    private static Check c;

    /** What all refused calls of one kind of object are held against. */
    private static List<Integer> untouched;
    private static boolean isRich;

    public static void main(String[] args) {
        c = new Check("BoundsRefusedTest");
        order();
        sets();
        calls();
        c.sentence("What answers so changes nothing, but as told.");
        isRich = true;
        untouched = seen(object());
        differs();
        refusedOfStairs();
        refusedOfPeople();
        refusedOfTheDay();
        refusedOfSheets();
        refusedOfCopy();
        asked();
        isRich = false;
        untouched = seen(object());
        refusedOfNoStairs();
        tape();
        c.end();
    }

    private static void order() {
        c.sentence("Answers below 0, of several BAD ahead of all others, then the first that a call names");
        StairsThatGo x = rich("7us");
        c.due("FULL alone: stair", x.stair(3, 1), -3);
        c.due("BAD ahead of FULL: stair", x.stair(2, 1), -1);
        c.due("BAD ahead of FULL: stair", x.stair(3, 3), -1);
        c.due("FULL alone: person", x.person(0, 0, 0), -3);
        c.due("BAD ahead of FULL: person", x.person(100, 0, 0), -1);
        c.due("BAD ahead of FULL: person", x.person(0, 2, 0), -1);
        c.due("BAD ahead of FULL: person", x.person(0, 0, 5), -1);
        c.due("FULL alone: people", x.people(), -3);
        c.due("a FAULT ahead of FULL: people", Check.people(x, "7us;"), -24);
        for (int k = 0; k < 10; k++) {
            x.type(Check.word("        "), 8);
        }
        c.due("FULL alone: type", x.type(32, 1), -3);
        c.due("BAD ahead of FULL: type", x.type(31, 1), -1);
        c.due("BAD ahead of FULL: type", x.type(32, 0), -1);
        c.due("NONE alone: on", x.on(99, 0, 0, 0), -4);
        c.due("BAD ahead of NONE: on", x.on(100, 0, 0, 0), -1);
        c.due("BAD ahead of NONE: on", x.on(99, 0, 0, 2), -1);
        StairsThatGo y = new StairsThatGo();
        y.person(0, 0, 0);
        c.due("NONE alone: fate", y.fate(0, 0), -4);
        c.due("BAD ahead of NONE: fate", y.fate(0, 5), -1);
        c.due("NOT ahead of NONE: thrift", y.thrift(99, 0), -2);
        c.due("BAD ahead of NOT: thrift", y.thrift(100, 0), -1);
        c.due("BAD ahead of NOT: ways", y.ways(2), -1);
        c.due("BAD ahead of NOT: best", y.best(0, 0), -1);
        c.due("BAD ahead of NOT: best", y.best(1, 3), -1);
        c.due("BAD ahead of SIZE: sheet", y.sheet(0, 3, -1), -1);
        c.due("BAD ahead of SIZE: sheet", y.sheet(4, 0, -1), -1);
    }

    private static void sets() {
        c.sentence("Sets of PEOPLE, of STAIRS are bits.");
        for (int p = 0; p < 14; p++) {
            StairsThatGo x = new StairsThatGo();
            for (int k = 0; k < 14; k++) {
                x.person(k == p ? 0 : 99, 0, 0);
            }
            c.due("the bit of " + p, x.at(0, 0), 1 << p);
        }
        for (int s = 0; s < 3; s++) {
            StairsThatGo x = new StairsThatGo();
            for (int k = 0; k < 3; k++) {
                Check.addStair(x, 3, 1, 1);
            }
            Check.crowd(x, "0us;0us;0us;0us");
            // by 3 each stair brings one, the first a fourth one by 4
            for (int k = 0; k < 3; k++) {
                x.of(k, 0, k == s ? 3 : 10);
            }
            x.sheet(0, 0, 1);
            x.of(s, 1, 0);
            x.film(0, 0, 0, 1);
            x.of(s, 1, 1);
            c.due("the bit of stair " + s, x.stood(0, 0, 0, 1), 1 << s);
        }
    }

    private static void calls() {
        c.sentence("An object is used for at most 512 calls after it has been made");
        StairsThatGo x = new StairsThatGo();
        for (int s = 0; s < 3; s++) {
            x.stair(3, 1);
        }
        int tick = 0;
        for (int call = 4; call < 510; call += 2) {
            tick = tick % 99 + 1;
            c.due("call " + call, x.change(tick, 0), call == 4 ? 0 : tick == 1 ? 99 : tick - 1);
            c.due("best(" + tick + ", 2)", x.best(tick, 2), 0);
        }
        c.due("call 510", x.person(0, 0, 0), 0);
        c.due("call 511", x.ways(0), 1);
        c.due("call 512", x.best(99, 0), 1);
    }

    private static StairsThatGo object() {
        return isRich ? rich(tapeOfRich()) : poor("7us");
    }

    private static String tapeOfRich() {
        return "5us;6dw" + " ".repeat(69);
    }

    /** All that an object can hold: full of stairs and people, an image unlike it, sheets of each lane, and a tape. */
    private static StairsThatGo rich(String tape) {
        StairsThatGo x = poor("");
        Check.addStair(x, 4, 2, 2);
        x.set(5, 3);
        x.set(0, 0);
        x.change(33, 2);
        x.person(2, 1, 0);
        x.image();
        Check.addStair(x, 5, 1, 1);
        Check.addStair(x, 3, 1, 2);
        x.of(0, 1, 1);
        int[] v = {1, 2, 1, 7, 2, 4, 6};
        for (int what = 0; what <= 6; what++) {
            x.set(what, v[what]);
        }
        x.change(20, 5);
        while (x.count(1) < 14) {
            x.person(3 * x.count(1) / 2, x.count(1) % 3 / 2, x.count(1) % 5);
        }
        Check.type(x, tape);
        return x;
    }

    /** No stairs, no image, one who comes, and sheets. */
    private static StairsThatGo poor(String tape) {
        StairsThatGo x = new StairsThatGo();
        x.person(7, 1, 1);
        x.set(1, 3);
        x.change(44, 20);
        int[][] items = {{1, 2, 3, 0, 2}, {2, 1}, {0, 3, 1}};
        for (int sheet = 0; sheet < 3; sheet++) {
            x.sheet(sheet, sheet, items[sheet].length);
            for (int i = 0; i < items[sheet].length; i++) {
                x.item(sheet, sheet, i, items[sheet][i]);
            }
        }
        Check.type(x, tape);
        return x;
    }

    /** All that can be seen of an object, which is used up by it. */
    private static List<Integer> seen(StairsThatGo x) {
        List<Integer> list = new ArrayList<>();
        seeDay(x, list);
        for (int sheet = 0; sheet < 4; sheet++) {
            for (int lane = 0; lane < 3; lane++) {
                list.add(x.stood(sheet, lane, 0, 1));
            }
        }
        list.add(x.type(32, 1));
        for (int k = 0; k < 3; k++) {
            x.strike(x.count(1) - 1);
        }
        list.add(x.people());
        seePeople(x, list);
        seeSettings(x, list);
        seeItems(x, list);
        for (int sheet = 0; sheet < 4; sheet++) {
            list.add(x.drop(sheet));
        }
        list.add(x.restore());
        seeDay(x, list);
        seeSettings(x, list);
        return list;
    }

    private static void seePeople(StairsThatGo x, List<Integer> list) {
        int people = x.count(1);
        list.add(people);
        for (int p = 0; p < people; p++) {
            for (int what = 0; what < 3; what++) {
                list.add(x.told(p, what));
            }
        }
    }

    private static void seeDay(StairsThatGo x, List<Integer> list) {
        seePeople(x, list);
        for (int what = 0; what <= 6; what++) {
            list.add(x.all(what));
        }
        for (int tick : new int[] {0, 6, 19, 20, 99}) {
            for (int what = 0; what <= 4; what++) {
                list.add(x.at(tick, what));
            }
        }
        int people = x.count(1);
        for (int p = 0; p < people; p++) {
            list.add(x.fate(p, 0));
            list.add(x.fate(p, 2));
        }
        list.add(x.best(9, 2));
        list.add(x.ways(1));
        list.add(x.thrift(99, 1));
    }

    private static void seeSettings(StairsThatGo x, List<Integer> list) {
        list.add(x.count(0));
        for (int s = 0; s < 3; s++) {
            for (int what = 0; what <= 2; what++) {
                list.add(x.of(s, what, new int[] {3, 0, 1}[what]));
            }
        }
        int[] v = {0, 9, 3, 40, 1, 0, 0};
        for (int what = 0; what <= 6; what++) {
            list.add(x.set(what, v[what]));
        }
        list.add(x.change(0, 0));
    }

    /** Behind seeSettings: by how many come each item is told from others. */
    private static void seeItems(StairsThatGo x, List<Integer> list) {
        if (x.count(0) == 0) {
            x.stair(3, 1);
        }
        x.of(0, 1, 1);
        while (x.count(1) > 0) {
            x.strike(0);
        }
        for (int k = 0; k < 4; k++) {
            for (int sheet = 0; sheet < 3; sheet++) {
                for (int i = 0; i <= 5; i++) {
                    list.add(x.stood(sheet, sheet, i, 1) & 8);
                }
            }
            x.person(0, 0, 0);
        }
    }

    /** That one is refused, and that nothing is seen of it then. */
    private static void refused(String call, int due, ToIntFunction<StairsThatGo> ask) {
        StairsThatGo x = object();
        c.due(call, ask.applyAsInt(x), due);
        c.holds(call + " changes nothing", seen(x).equals(untouched));
    }

    /** What is taken is seen: else all else here would hold for nothing. */
    private static void differs() {
        List<ToIntFunction<StairsThatGo>> calls = new ArrayList<>();
        calls.add(x -> x.of(0, 0, 10));
        calls.add(x -> x.of(2, 1, 0));
        calls.add(x -> x.of(1, 2, 2));
        for (int what = 0; what <= 6; what++) {
            int asked = what;
            calls.add(x -> x.set(asked, asked == 0 ? 0 : 3));
        }
        calls.add(x -> x.change(21, 5));
        calls.add(x -> x.change(20, 4));
        calls.add(x -> x.strike(13));
        calls.add(x -> x.type(32, 1));
        calls.add(x -> x.people());
        calls.add(x -> x.image());
        calls.add(x -> x.restore());
        calls.add(x -> x.film(0, 0, 4, 1));
        calls.add(x -> x.item(0, 0, 4, 0));
        calls.add(x -> x.item(2, 2, 1, 0));
        calls.add(x -> x.sheet(3, 0, 1));
        calls.add(x -> x.sheet(1, 1, 1));
        calls.add(x -> x.drop(2));
        calls.add(x -> x.copy(0, 0, 0, 1, 1));
        for (int k = 0; k < calls.size(); k++) {
            StairsThatGo x = object();
            // people is FULL here, and the tape is empty then
            c.holds("call " + k + " is taken", calls.get(k).applyAsInt(x) >= (k == 14 ? -3 : 0));
            c.holds("call " + k + " is seen", !seen(x).equals(untouched));
        }
    }

    private static void refusedOfStairs() {
        refused("stair(3, 1)", -3, x -> x.stair(3, 1));
        refused("stair(10, 2)", -3, x -> x.stair(10, 2));
        for (int v : new int[] {MIN, -1, 0, 2, 11, MAX}) {
            refused("stair(" + v + ", 1)", -1, x -> x.stair(v, 1));
            refused("of(1, 0, " + v + ")", -1, x -> x.of(1, 0, v));
        }
        for (int v : new int[] {MIN, -1, 0, 3, MAX}) {
            refused("stair(3, " + v + ")", -1, x -> x.stair(3, v));
            refused("of(1, 2, " + v + ")", -1, x -> x.of(1, 2, v));
        }
        for (int v : new int[] {MIN, -1, 3, MAX}) {
            refused("of(1, 1, " + v + ")", -1, x -> x.of(1, 1, v));
            refused("of(" + v + ", 1, 2)", -1, x -> x.of(v, 1, 2));
            refused("of(0, " + v + ", 2)", -1, x -> x.of(0, v, 2));
        }
        int[] low = {0, 1, 1, 2, 1, 0, 0};
        int[] high = {1, 9, 3, 40, 9, 9, 10};
        for (int what = 0; what <= 6; what++) {
            int asked = what;
            refused("set(" + what + ", too small)", -1, x -> x.set(asked, low[asked] - 1));
            refused("set(" + what + ", too large)", -1, x -> x.set(asked, high[asked] + 1));
        }
        refused("set(-1, 1)", -1, x -> x.set(-1, 1));
        refused("set(7, 1)", -1, x -> x.set(7, 1));
        for (int v : new int[] {MIN, -1, 100, MAX}) {
            refused("change(" + v + ", 0)", -1, x -> x.change(v, 0));
        }
        for (int v : new int[] {MIN, -1, 27, MAX}) {
            refused("change(5, " + v + ")", -1, x -> x.change(5, v));
            refused("change(0, " + v + ")", -1, x -> x.change(0, v));
        }
    }

    private static void refusedOfPeople() {
        refused("person(5, 0, 0)", -3, x -> x.person(5, 0, 0));
        for (int v : new int[] {MIN, -1, 100, MAX}) {
            refused("person(" + v + ", 0, 0)", -1, x -> x.person(v, 0, 0));
            refused("person(0, " + v + ", 0)", -1, x -> x.person(0, v, 0));
            refused("person(0, 0, " + v + ")", -1, x -> x.person(0, 0, v));
            refused("strike(" + v + ")", -1, x -> x.strike(v));
            refused("told(" + v + ", 0)", -1, x -> x.told(v, 0));
            refused("told(0, " + v + ")", -1, x -> x.told(0, v));
            refused("count(" + v + ")", -1, x -> x.count(v));
            refused("type(32, " + v + ")", -1, x -> x.type(32, v));
        }
        refused("strike(14)", -1, x -> x.strike(14));
        refused("type(32, 0)", -1, x -> x.type(32, 0));
        refused("type(32, 9)", -1, x -> x.type(32, 9));
        refused("type(31, 1)", -1, x -> x.type(31, 1));
        refused("type of a bad byte behind good ones", -1, x -> x.type(Check.word("us") << 8 | 127, 3));
        refused("type of a bad byte ahead of good ones", -1, x -> x.type(127L << 16 | Check.word("us"), 3));
        for (int n = 5; n <= 8; n++) {
            int many = n;
            refused("type of " + n, -3, x -> x.type(Check.word(";7us;8us"), many));
        }
    }

    private static void refusedOfTheDay() {
        for (int v : new int[] {MIN, -1, 100, MAX}) {
            refused("fate(" + v + ", 0)", -1, x -> x.fate(v, 0));
            refused("fate(0, " + v + ")", -1, x -> x.fate(0, v));
            refused("at(" + v + ", 0)", -1, x -> x.at(v, 0));
            refused("at(0, " + v + ")", -1, x -> x.at(0, v));
            refused("on(" + v + ", 0, 0, 0)", -1, x -> x.on(v, 0, 0, 0));
            refused("on(0, " + v + ", 0, 0)", -1, x -> x.on(0, v, 0, 0));
            refused("on(0, 0, " + v + ", 0)", -1, x -> x.on(0, 0, v, 0));
            refused("on(0, 0, 0, " + v + ")", -1, x -> x.on(0, 0, 0, v));
            refused("all(" + v + ")", -1, x -> x.all(v));
            refused("ways(" + v + ")", -1, x -> x.ways(v));
            refused("best(" + v + ", 0)", -1, x -> x.best(v, 0));
            refused("best(1, " + v + ")", -1, x -> x.best(1, v));
            refused("thrift(" + v + ", 0)", -1, x -> x.thrift(v, 0));
            refused("thrift(0, " + v + ")", -1, x -> x.thrift(0, v));
            refused("costs(" + v + ")", -100001, x -> x.costs(v));
        }
        refused("thrift(0, 0)", -4, x -> x.thrift(0, 0));
        refused("thrift(0, 1)", -4, x -> x.thrift(0, 1));
        refused("on(0, 2, 0, 1)", -4, x -> x.on(0, 2, 0, 1));
        refused("costs(14)", -100001, x -> x.costs(14));
    }

    private static void refusedOfSheets() {
        for (int v : new int[] {MIN, -1, 4, MAX}) {
            refused("film(" + v + ", 0, 0, 1)", -1, x -> x.film(v, 0, 0, 1));
            refused("film(0, " + v + ", 0, 1)", -1, x -> x.film(0, v, 0, 1));
            refused("stood(" + v + ", 0, 0, 1)", -1, x -> x.stood(v, 0, 0, 1));
            refused("stood(0, " + v + ", 0, 1)", -1, x -> x.stood(0, v, 0, 1));
            refused("sheet(" + v + ", 0, 1)", -1, x -> x.sheet(v, 0, 1));
            refused("sheet(0, " + v + ", 1)", -1, x -> x.sheet(0, v, 1));
            refused("drop(" + v + ")", -1, x -> x.drop(v));
            refused("item(" + v + ", 0, 0, 9)", -1, x -> x.item(v, 0, 0, 9));
            refused("item(0, " + v + ", 0, 9)", -1, x -> x.item(0, v, 0, 9));
        }
        for (int v : new int[] {MIN, -1, 0, 11, MAX}) {
            refused("film(0, 0, 0, " + v + ")", -1, x -> x.film(0, 0, 0, v));
            refused("stood(0, 0, 0, " + v + ")", -1, x -> x.stood(0, 0, 0, v));
        }
        for (int v : new int[] {MIN, -1, 5, 6, MAX}) {
            refused("film(0, 0, " + v + ", 1)", -13, x -> x.film(0, 0, v, 1));
            refused("stood(0, 0, " + v + ", 1)", -13, x -> x.stood(0, 0, v, 1));
            refused("item(0, 0, " + v + ", 9)", -13, x -> x.item(0, 0, v, 9));
        }
        refused("film beyond the end", -13, x -> x.film(0, 0, 2, 4));
        refused("film of more than there are", -13, x -> x.film(0, 0, 0, 6));
        refused("film of another lane", -12, x -> x.film(1, 0, 0, 1));
        refused("film of nothing", -11, x -> x.film(3, 0, 0, 1));
        refused("stood of another lane", -12, x -> x.stood(1, 0, 0, 1));
        refused("stood of nothing", -11, x -> x.stood(3, 0, 0, 1));
        refused("item of another lane", -12, x -> x.item(1, 0, 0, 9));
        refused("item of nothing", -11, x -> x.item(3, 0, 0, 9));
        refused("drop of nothing", -11, x -> x.drop(3));
        for (int sheet = 0; sheet <= 3; sheet++) {
            int asked = sheet;
            refused("sheet(" + sheet + ", 0, 17)", -1, x -> x.sheet(asked, 0, 17));
            refused("sheet(" + sheet + ", 0, MAX)", -1, x -> x.sheet(asked, 0, MAX));
            refused("sheet(" + sheet + ", 0, -1)", -14, x -> x.sheet(asked, 0, -1));
            refused("sheet(" + sheet + ", 0, MIN)", -14, x -> x.sheet(asked, 0, MIN));
        }
    }

    private static void refusedOfCopy() {
        for (int v : new int[] {MIN, -1, 4, MAX}) {
            refused("copy(" + v + ", 0, 0, 0, 1)", -1, x -> x.copy(v, 0, 0, 0, 1));
            refused("copy(0, 0, " + v + ", 0, 1)", -1, x -> x.copy(0, 0, v, 0, 1));
        }
        for (int v : new int[] {MIN, -1, 6, MAX}) {
            refused("copy(0, " + v + ", 0, 0, 0)", -13, x -> x.copy(0, v, 0, 0, 0));
            refused("copy(0, 0, 0, " + v + ", 0)", -13, x -> x.copy(0, 0, 0, v, 0));
            refused("copy(0, 0, 0, 0, " + v + ")", -13, x -> x.copy(0, 0, 0, 0, v));
        }
        refused("copy of more than there are", -13, x -> x.copy(0, 3, 0, 0, 3));
        refused("copy to more than there are", -13, x -> x.copy(0, 0, 0, 3, 3));
        refused("copy from another lane", -12, x -> x.copy(1, 0, 0, 0, 1));
        refused("copy to another lane", -12, x -> x.copy(0, 0, 1, 0, 1));
        refused("copy from nothing", -11, x -> x.copy(3, 0, 0, 0, 1));
        refused("copy to nothing", -11, x -> x.copy(0, 0, 3, 0, 1));
    }

    /** What only asks changes nothing either. */
    private static void asked() {
        StairsThatGo x = object();
        int before = x.rules();
        for (int k = 0; k < 14; k++) {
            x.costs(k);
        }
        x.ways(0);
        x.best(5, 0);
        x.best(20, 1);
        x.thrift(99, 0);
        x.stood(0, 0, 0, 5);
        x.on(50, 0, 0, 0);
        x.count(2);
        c.due("rules()", x.rules(), before);
        c.holds("what only asks changes nothing", seen(x).equals(untouched));
    }

    private static void refusedOfNoStairs() {
        refused("ways(0)", -2, x -> x.ways(0));
        refused("ways(1)", -2, x -> x.ways(1));
        refused("best(44, 0)", -2, x -> x.best(44, 0));
        refused("best(44, 2)", -2, x -> x.best(44, 2));
        refused("thrift(99, 0)", -2, x -> x.thrift(99, 0));
        refused("thrift(99, 1)", -2, x -> x.thrift(99, 1));
        refused("restore()", -4, x -> x.restore());
        refused("of(0, 0, 3)", -1, x -> x.of(0, 0, 3));
        refused("on(0, 0, 0, 0)", -1, x -> x.on(0, 0, 0, 0));
        refused("strike(1)", -1, x -> x.strike(1));
        refused("fate(0, 0)", -4, x -> x.fate(0, 0));
        refused("fate(0, 1)", -4, x -> x.fate(0, 1));
        refused("fate(0, 2)", -4, x -> x.fate(0, 2));
    }

    private static void tape() {
        c.sentence("THE TAPE, which is empty then (by a FAULT, by FULL, too)");
        List<Integer> empty = seen(rich(""));
        c.holds("the tape is seen", !empty.equals(seen(rich("7us"))));
        for (String text : new String[] {"7us;", "7us;8dx", "100us", "x", " ".repeat(80)}) {
            StairsThatGo x = rich(text);
            c.holds("a fault of '" + text + "'", x.people() <= -20);
            c.holds("but for the tape it changes nothing", seen(x).equals(empty));
        }
        StairsThatGo x = rich("7us");
        c.due("FULL", x.people(), -3);
        c.holds("but for the tape it changes nothing", seen(x).equals(empty));
        StairsThatGo y = rich("");
        c.due("nothing on the tape", y.people(), -20);
        c.holds("it changes nothing", seen(y).equals(empty));
    }
}
