import java.util.Arrays;

/** Each sentence about sheets that names a boundary: the line ---- 4, promises 21 and 24 to 28. */
final class BoundsSheetsTest {
    private static final int UP = 1, DOWN = 2;
    private static final int RULE = 0, ROOM = 1, LEAVE = 2, LIMIT = 3;
    private static final int MIN = Integer.MIN_VALUE, MAX = Integer.MAX_VALUE;

    /** What an item is that no count is. */
    private static final int NO_COUNT = -1;
    private static Check c;

    public static void main(String[] args) {
        c = new Check("BoundsSheetsTest");
        fourSheets();
        sizes();
        drop();
        item();
        lowestBits();
        copy();
        overlap();
        noItemTaken();
        order();
        film();
        filmTicks();
        stood();
        stoodBits();
        c.end();
    }

    /** An object whose first count is as many people as come. */
    private static StairsThatGo counting() {
        StairsThatGo x = Check.day(3, 1, UP, "");
        x.set(RULE, 0);
        x.set(ROOM, 9);
        x.set(LEAVE, 3);
        x.set(LIMIT, 40);
        return x;
    }

    /** Of a counting object: whether the row is just as due. */
    private static void rowIs(String name, StairsThatGo x, int sheet, int lane, int... due) {
        int[] got = new int[due.length];
        Arrays.fill(got, NO_COUNT);
        int most = 0;
        for (int v : due) {
            most = Math.max(most, v);
        }
        while (x.count(1) > 0) {
            x.strike(0);
        }
        for (int k = 0; k <= most; k++) {
            for (int i = 0; i < due.length; i++) {
                if ((x.stood(sheet, lane, i, 1) & 8) != 0) {
                    got[i] = k;
                }
            }
            x.person(0, 0, 0);
        }
        for (int i = 0; i < due.length; i++) {
            c.due(name + ": item " + i, got[i], due[i]);
        }
        c.due(name + ": no more items", x.stood(sheet, lane, due.length, 1), -13);
    }

    private static void fill(StairsThatGo x, int sheet, int lane, int... items) {
        x.sheet(sheet, lane, items.length);
        for (int i = 0; i < items.length; i++) {
            x.item(sheet, lane, i, items[i]);
        }
    }

    private static void fourSheets() {
        c.sentence("sheets 0 .. 3: nothing (at first), or a row of a LANE: 0 bytes, 1 shorts, 2 ints (all with a sign), "
            + "of 0 to 16 items.");
        StairsThatGo x = new StairsThatGo();
        c.taken("sheet(sheet, 0, 1) of another object", 0, 3, sheet -> new StairsThatGo().sheet(sheet, 0, 1));
        for (int sheet = 0; sheet <= 3; sheet++) {
            c.due("nothing in " + sheet, x.drop(sheet), -11);
            c.due("item of " + sheet, x.item(sheet, 0, 0, 0), -11);
            c.due("copy within " + sheet, x.copy(sheet, 0, sheet, 0, 0), -11);
            c.due("film into " + sheet, x.film(sheet, 0, 0, 1), -11);
            c.due("stood by " + sheet, x.stood(sheet, 0, 0, 1), -11);
        }
        c.refused("sheet(sheet, 0, 1)", -1, 0, 3, sheet -> x.sheet(sheet, 0, 1));
        c.refused("sheet(0, lane, 1)", -1, 0, 2, lane -> x.sheet(0, lane, 1));
        for (int sheet = 0; sheet <= 3; sheet++) {
            for (int lane = 0; lane <= 2; lane++) {
                c.due("sheet(" + sheet + ", " + lane + ", 4)", x.sheet(sheet, lane, 4), 4);
                for (int other = 0; other <= 2; other++) {
                    c.due("taken as " + other, x.item(sheet, other, 0, 0), other == lane ? 1 : -12);
                }
            }
        }
    }

    private static void sizes() {
        c.sentence("A SHEET holds a new row of a LANE: n. BAD: also n above 16; SIZE: n below 0.");
        StairsThatGo x = counting();
        for (int n : new int[] {17, 18, 1000, MAX}) {
            c.due("n of " + n, x.sheet(0, 0, n), -1);
        }
        for (int n : new int[] {-1, -2, -16, MIN}) {
            c.due("n of " + n, x.sheet(0, 0, n), -14);
        }
        c.due("there is nothing by these", x.drop(0), -11);
        for (int n = 0; n <= 16; n++) {
            c.due("n of " + n, x.sheet(0, n % 3, n), n);
            c.due("the item behind all of " + n, x.item(0, n % 3, n, 0), -13);
            c.due("the last item of " + n, x.item(0, n % 3, n - 1, 3), n == 0 ? -13 : 1);
        }
        x.sheet(0, 1, 3);
        rowIs("new", x, 0, 1, 0, 0, 0);
        x.item(0, 1, 2, 3);
        c.due("a refused one", x.sheet(0, 2, -1), -14);
        c.due("a refused one", x.sheet(0, 2, 17), -1);
        c.due("a refused one", x.sheet(0, 3, 2), -1);
        rowIs("as it was", x, 0, 1, 0, 0, 3);
        c.due("the same size again", x.sheet(0, 1, 3), 3);
        rowIs("new again", x, 0, 1, 0, 0, 0);
        for (int s = 0; s <= 3; s++) {
            c.due("BAD is ahead of SIZE", x.sheet(s, 3, -1), -1);
            c.due("BAD is ahead of SIZE", x.sheet(4, s, -1), -1);
        }
    }

    private static void drop() {
        c.sentence("A SHEET holds nothing: how many items it had. BAD; NULL.");
        StairsThatGo x = counting();
        c.refused("drop(sheet)", -1, 0, 3, x::drop);
        for (int n = 0; n <= 16; n++) {
            x.sheet(n % 4, n % 3, n);
            c.due("drop of " + n, x.drop(n % 4), n);
            c.due("drop again", x.drop(n % 4), -11);
        }
        fill(x, 2, 1, 3, 3);
        x.sheet(1, 1, 2);
        x.drop(2);
        c.due("an item of nothing", x.item(2, 1, 0, 1), -11);
        c.due("a copy of nothing", x.copy(2, 0, 1, 0, 1), -11);
        c.due("a copy to nothing", x.copy(1, 0, 2, 0, 1), -11);
        rowIs("another sheet", x, 1, 1, 0, 0);
        x.sheet(2, 1, 2);
        rowIs("not what it held", x, 2, 1, 0, 0);
    }

    private static void item() {
        c.sentence("Item i of a SHEET, taken as a row of a LANE, becomes v, its lowest bits: 1. BAD; NULL; CAST; INDEX.");
        StairsThatGo x = counting();
        x.sheet(0, 0, 3);
        x.sheet(3, 2, 16);
        c.refused("item(sheet, 0, 0, 1)", -1, 0, 3, sheet -> x.item(sheet, 0, 0, 1));
        c.refused("item(0, lane, 0, 1)", -1, 0, 2, lane -> x.item(0, lane, 0, 1));
        c.refused("item(0, 0, i, 1)", -13, 0, 2, i -> x.item(0, 0, i, 1));
        c.refused("item(3, 2, i, 1)", -13, 0, 15, i -> x.item(3, 2, i, 1));
        rowIs("none of them", x, 0, 0, 0, 0, 0);
        c.due("the first", x.item(0, 0, 0, 3), 1);
        c.due("the last", x.item(0, 0, 2, 1), 1);
        rowIs("two of them", x, 0, 0, 3, 0, 1);
        c.due("the last of sixteen", x.item(3, 2, 15, 2), 1);
        rowIs("sixteen", x, 3, 2, 0, 0, 0, 0, 0, 0, 0, 0, 0, 0, 0, 0, 0, 0, 0, 2);
    }

    private static void lowestBits() {
        c.sentence("becomes v, its lowest bits: 1.");
        int[] v = {256 + 2, -256 + 2, 65536 + 2, MIN + 2, 0x7FFFFF02, 130, 128, 255, 32768 + 2, -1, 65535, MIN, MAX};
        int[][] due = {
            {2, 2, 2, 2, 2, -1, -1, -1, 2, -1, -1, 0, -1},
            {-1, -1, 2, 2, -1, -1, -1, -1, -1, -1, -1, 0, -1},
            {-1, -1, -1, -1, -1, -1, -1, -1, -1, -1, -1, -1, -1}
        };
        for (int lane = 0; lane <= 2; lane++) {
            StairsThatGo x = counting();
            fill(x, 0, lane, v);
            rowIs("lane " + lane, x, 0, lane, due[lane]);
        }
        StairsThatGo x = counting();
        fill(x, 0, 0, 256, 512, -256, 65536, 1, 257);
        rowIs("bytes", x, 0, 0, 0, 0, 0, 0, 1, 1);
        fill(x, 0, 1, 256, 65536, -65536, 131072, 1, 65537);
        rowIs("shorts", x, 0, 1, -1, 0, 0, 0, 1, 1);
        fill(x, 0, 2, 256, 65536, MIN, 0, 1, 65537);
        rowIs("ints", x, 0, 2, -1, -1, -1, 0, 1, -1);
    }

    private static void copy() {
        c.sentence("n items of a SHEET from i on come to another one (or the same) from j on, as if all were taken ahead: n. "
            + "BAD; NULL (either); CAST: of unlike LANES; INDEX (n below 0, too).");
        StairsThatGo x = counting();
        fill(x, 0, 1, 1, 2, 3, 4, 1);
        fill(x, 1, 1, 0, 0, 0);
        x.sheet(2, 2, 5);
        c.refused("copy(from, 0, 0, 0, 1)", -1, 0, 3, from -> x.copy(from, 0, 0, 0, 1));
        c.refused("copy(0, 0, to, 0, 1)", -1, 0, 3, to -> x.copy(0, 0, to, 0, 1));
        c.due("from nothing", x.copy(3, 0, 0, 0, 1), -11);
        c.due("to nothing", x.copy(0, 0, 3, 0, 1), -11);
        c.due("nothing to itself", x.copy(3, 0, 3, 0, 0), -11);
        c.due("shorts to ints", x.copy(0, 0, 2, 0, 1), -12);
        c.due("ints to shorts", x.copy(2, 0, 0, 0, 0), -12);
        c.refused("copy(0, i, 1, 0, 1)", -13, 0, 4, i -> x.copy(0, i, 1, 0, 1));
        c.refused("copy(0, 0, 1, j, 1)", -13, 0, 2, j -> x.copy(0, 0, 1, j, 1));
        c.refused("copy(0, 0, 0, 0, n)", -13, 0, 5, n -> x.copy(0, 0, 0, 0, n));
        c.refused("copy(0, 0, 1, 0, n)", -13, 0, 3, n -> x.copy(0, 0, 1, 0, n));
        c.refused("copy(0, 3, 1, 0, n)", -13, 0, 2, n -> x.copy(0, 3, 1, 0, n));
        c.refused("copy(0, 0, 1, 1, n)", -13, 0, 2, n -> x.copy(0, 0, 1, 1, n));
        rowIs("none of them came", x, 1, 1, 0, 0, 0);
        c.due("two to the end", x.copy(0, 3, 1, 1, 2), 2);
        rowIs("came", x, 1, 1, 0, 4, 1);
        rowIs("stay", x, 0, 1, 1, 2, 3, 4, 1);
        c.due("all of it", x.copy(1, 0, 0, 2, 3), 3);
        rowIs("came", x, 0, 1, 1, 2, 0, 4, 1);
    }

    private static void overlap() {
        c.sentence("as if all were taken ahead");
        for (int lane = 0; lane <= 2; lane++) {
            StairsThatGo x = counting();
            fill(x, 0, lane, 1, 2, 3, 4);
            c.due("one item on", x.copy(0, 0, 0, 1, 3), 3);
            rowIs("one item on", x, 0, lane, 1, 1, 2, 3);
            fill(x, 0, lane, 1, 2, 3, 4);
            c.due("one item back", x.copy(0, 1, 0, 0, 3), 3);
            rowIs("one item back", x, 0, lane, 2, 3, 4, 4);
            fill(x, 0, lane, 1, 2, 3, 4);
            c.due("to its place", x.copy(0, 0, 0, 0, 4), 4);
            rowIs("to its place", x, 0, lane, 1, 2, 3, 4);
        }
    }

    private static void noItemTaken() {
        c.sentence("INDEX also where no item is taken, if i, j is below 0, or above how many there are");
        StairsThatGo x = new StairsThatGo();
        x.sheet(0, 0, 5);
        x.sheet(1, 0, 0);
        x.sheet(2, 0, 16);
        int[] sizes = {5, 0, 16};
        for (int from = 0; from < 3; from++) {
            for (int to = 0; to < 3; to++) {
                int a = from;
                int b = to;
                c.refused("none from i of " + a, -13, 0, sizes[a], i -> x.copy(a, i, b, 0, 0));
                c.refused("none to j of " + b, -13, 0, sizes[b], j -> x.copy(a, 0, b, j, 0));
                c.taken("none from i of " + a, 0, sizes[a], i -> x.copy(a, i, b, 0, 0));
                c.taken("none to j of " + b, 0, sizes[b], j -> x.copy(a, 0, b, j, 0));
                c.due("both behind all", x.copy(a, sizes[a], b, sizes[b], 0), 0);
                c.due("one from behind all", x.copy(a, sizes[a], b, 0, 1), -13);
                c.due("one to behind all", x.copy(a, 0, b, sizes[b], 1), -13);
            }
        }
    }

    private static void order() {
        c.sentence("NULL, CAST, INDEX, SIZE in this order");
        StairsThatGo x = new StairsThatGo();
        x.sheet(0, 0, 5);
        x.sheet(1, 1, 5);
        for (int i : new int[] {MIN, -1, 5, MAX}) {
            c.due("NULL ahead of INDEX: item", x.item(3, 0, i, 0), -11);
            c.due("CAST ahead of INDEX: item", x.item(0, 1, i, 0), -12);
            c.due("NULL ahead of INDEX: film", x.film(3, 0, i, 1), -11);
            c.due("CAST ahead of INDEX: film", x.film(0, 1, i, 1), -12);
            c.due("NULL ahead of INDEX: stood", x.stood(3, 0, i, 1), -11);
            c.due("CAST ahead of INDEX: stood", x.stood(0, 1, i, 1), -12);
            c.due("NULL ahead of INDEX: copy from", x.copy(3, i, 0, i, i), -11);
            c.due("NULL ahead of INDEX: copy to", x.copy(0, i, 3, i, i), -11);
            c.due("CAST ahead of INDEX: copy", x.copy(0, i, 1, i, i), -12);
            c.due("CAST ahead of INDEX: copy", x.copy(1, i, 0, i, i), -12);
            c.due("BAD ahead of all: item", x.item(4, 1, i, 0), -1);
            c.due("BAD ahead of all: item", x.item(0, 3, i, 0), -1);
            c.due("BAD ahead of NULL: item", x.item(3, 3, i, 0), -1);
            c.due("BAD ahead of all: copy", x.copy(0, i, 4, i, i), -1);
            c.due("BAD ahead of NULL: copy", x.copy(3, i, 4, i, i), -1);
            c.due("BAD ahead of NULL: copy", x.copy(4, i, 3, i, i), -1);
            for (int n : new int[] {MIN, -1, 0, 11, MAX}) {
                c.due("BAD ahead of NULL: film", x.film(3, 0, i, n), -1);
                c.due("BAD ahead of CAST: film", x.film(0, 1, i, n), -1);
                c.due("BAD ahead of INDEX: film", x.film(0, 0, i, n), -1);
                c.due("BAD ahead of NULL: stood", x.stood(3, 0, i, n), -1);
                c.due("BAD ahead of CAST: stood", x.stood(0, 1, i, n), -1);
                c.due("BAD ahead of INDEX: stood", x.stood(0, 0, i, n), -1);
            }
            c.due("BAD ahead of NULL: film", x.film(3, 3, i, 1), -1);
            c.due("BAD ahead of NULL: stood", x.stood(3, -1, i, 1), -1);
        }
        c.sentence("CAST -12 (of SHEETS another LANE)");
        for (int lane = 0; lane <= 2; lane++) {
            x.sheet(2, lane, 3);
            for (int other = 0; other <= 2; other++) {
                c.due("item", x.item(2, other, 0, 0), lane == other ? 1 : -12);
                c.due("film", x.film(2, other, 0, 1), lane == other ? 1 : -12);
                c.due("stood", x.stood(2, other, 0, 1), lane == other ? 8 : -12);
                x.sheet(3, other, 3);
                c.due("copy", x.copy(2, 0, 3, 0, 0), lane == other ? 0 : -12);
            }
        }
    }

    private static void film() {
        c.sentence("Counts of THROUGH by TICKS 9, 19, .. (n of them, 1 .. 10) come to a SHEET, taken as a row of a LANE, "
            + "from item i on: n. BAD; NULL; CAST; INDEX.");
        StairsThatGo x = counting();
        x.sheet(0, 0, 16);
        x.sheet(1, 1, 3);
        c.refused("film(sheet, 0, 0, 1)", -1, 0, 3, sheet -> x.film(sheet, 0, 0, 1));
        c.refused("film(0, lane, 0, 1)", -1, 0, 2, lane -> x.film(0, lane, 0, 1));
        c.refused("film(0, 0, 0, n)", -1, 1, 10, n -> x.film(0, 0, 0, n));
        c.taken("film(0, 0, 6, n)", 1, 10, n -> x.film(0, 0, 6, n));
        for (int n = 1; n <= 10; n++) {
            int many = n;
            c.refused("film(0, 0, i, " + n + ")", -13, 0, 16 - n, i -> x.film(0, 0, i, many));
            c.due("film(0, 0, " + (16 - n) + ", " + n + ")", x.film(0, 0, 16 - n, n), n);
        }
        c.due("three items, the last two", x.film(1, 1, 1, 2), 2);
        c.due("three items, all", x.film(1, 1, 0, 3), 3);
        c.due("three items, four", x.film(1, 1, 0, 4), -13);
        c.due("three items, three from 1", x.film(1, 1, 1, 3), -13);
        fill(x, 1, 1, 3, 3, 3);
        x.person(0, 0, 0);
        c.due("refused", x.film(1, 1, 2, 2), -13);
        rowIs("refused", x, 1, 1, 3, 3, 3);
        c.due("the middle one", x.film(1, 1, 1, 1), 1);
        // four came meanwhile, to tell items apart
        rowIs("the middle one", x, 1, 1, 3, 4, 3);
    }

    private static void filmTicks() {
        c.sentence("(THROUGH in all by TICKS 9, 19, and so on; n 1 .. 10)");
        for (int tick = 0; tick <= 99; tick++) {
            StairsThatGo x = Check.day(3, 1, UP, tick <= 96 ? tick + "us" : "");
            x.sheet(0, 2, 10);
            int through = tick + 3;
            for (int k = 0; k < 10; k++) {
                x.item(0, 2, k, tick <= 96 && through <= 10 * k + 9 ? 1 : 0);
            }
            c.due("who is through at " + through, x.stood(0, 2, 0, 10) & 8, 8);
        }
        StairsThatGo x = counting();
        for (int through : new int[] {9, 10, 29, 30, 49, 50, 89, 90, 99}) {
            x.person(through - 3, 0, 0);
        }
        x.sheet(3, 2, 10);
        x.film(3, 2, 0, 10);
        rowIs("film", x, 3, 2, 1, 2, 3, 4, 5, 6, 6, 6, 7, 9);
        while (x.count(1) < 14) {
            x.person(0, 0, 0);
        }
        x.sheet(0, 0, 1);
        x.item(0, 0, 0, 14);
        c.due("all fourteen by 9", x.stood(0, 0, 0, 1), 8);
        x.item(0, 0, 0, 13);
        c.due("not thirteen", x.stood(0, 0, 0, 1), 0);
    }

    private static void stood() {
        c.sentence("STOOD: n counts (1 .. 10), items of a SHEET, taken as a row of a LANE, from item i on, as a set. "
            + "BAD; NULL; CAST; INDEX.");
        StairsThatGo x = new StairsThatGo();
        x.sheet(0, 0, 16);
        x.sheet(1, 1, 3);
        x.sheet(2, 2, 0);
        c.refused("stood(sheet, 0, 0, 1)", -1, 0, 3, sheet -> x.stood(sheet, 0, 0, 1));
        c.refused("stood(0, lane, 0, 1)", -1, 0, 2, lane -> x.stood(0, lane, 0, 1));
        c.refused("stood(0, 0, 0, n)", -1, 1, 10, n -> x.stood(0, 0, 0, n));
        for (int n = 1; n <= 10; n++) {
            int many = n;
            c.refused("stood(0, 0, i, " + n + ")", -13, 0, 16 - n, i -> x.stood(0, 0, i, many));
            c.due("stood(0, 0, " + (16 - n) + ", " + n + ")", x.stood(0, 0, 16 - n, n), 8);
        }
        c.due("three items, all", x.stood(1, 1, 0, 3), 8);
        c.due("three items, four", x.stood(1, 1, 0, 4), -13);
        c.due("three items, three from 1", x.stood(1, 1, 1, 3), -13);
        c.due("an empty row", x.stood(2, 2, 0, 1), -13);
        c.due("nothing", x.stood(3, 2, 0, 1), -11);
        c.due("shorts as bytes", x.stood(1, 0, 0, 1), -12);
        // each of the counts must be just so
        for (int k = 0; k < 10; k++) {
            x.item(0, 0, k, 1);
            c.due("another count at " + k, x.stood(0, 0, 0, 10), 0);
            c.due("ahead of it", x.stood(0, 0, 0, Math.max(1, k)), k == 0 ? 0 : 8);
            c.due("behind it", x.stood(0, 0, k + 1, 5), 8);
            x.item(0, 0, k, 0);
        }
    }

    private static void stoodBits() {
        c.sentence("which STAIR, standing all day in place of its WAY, alone, makes just these "
            + "(bits 0 .. 2; bit 3: none stood).");
        // by 9, by 19: p0 is up at 3, the others down at 8, 9, 9, 10, without stair 1 at 9, 10, 11, 12,
        // without stair 2 at 8, 9, 10, 11
        StairsThatGo x = Check.day(3, 1, UP, "0us;0ds;0ds;0ds;0ds");
        Check.addStair(x, 8, 1, DOWN);
        Check.addStair(x, 9, 1, DOWN);
        int[][] rows = {{4, 5, 8}, {3, 4, 1}, {2, 5, 2}, {3, 5, 4}, {2, 4, 0}, {4, 4, 0}, {5, 5, 0}};
        for (int[] row : rows) {
            fill(x, 0, 1, row[0], row[1]);
            c.due(row[0] + " by 9, " + row[1] + " by 19", x.stood(0, 1, 0, 2), row[2]);
        }
        // nobody: any of them, or none
        StairsThatGo y = new StairsThatGo();
        y.sheet(0, 0, 10);
        int[] due = {8, 9, 11, 15};
        for (int stairs = 0; stairs <= 3; stairs++) {
            c.due("of " + stairs + " stairs", y.stood(0, 0, 0, 10), due[stairs]);
            y.stair(3, 1);
        }
        // by day all alone: with two that stand it is not the same
        StairsThatGo z = Check.day(3, 1, UP, "0us;0us");
        Check.addStair(z, 3, 1, UP);
        z.sheet(0, 0, 1);
        z.item(0, 0, 0, 2);
        c.due("either one is enough", z.stood(0, 0, 0, 1), 8 + 2 + 1);
        z.item(0, 0, 0, 0);
        c.due("not both", z.stood(0, 0, 0, 1), 0);
        // all day, behind a change, too
        z.change(50, 4);
        z.of(0, 1, 0);
        z.of(1, 1, 0);
        z.item(0, 0, 0, 0);
        c.due("by 9 all stand anyway", z.stood(0, 0, 0, 1), 8 + 2 + 1);
        z.sheet(0, 0, 10);
        for (int k = 5; k < 10; k++) {
            z.item(0, 0, k, 2);
        }
        c.due("from 50 on either one is enough", z.stood(0, 0, 0, 10), 8 + 2 + 1);
        z.change(50, 1);
        c.due("stair 0 alone goes", z.stood(0, 0, 0, 10), 8 + 2);
        z.change(50, 3);
        c.due("stair 1 alone goes", z.stood(0, 0, 0, 10), 8 + 1);
    }
}
