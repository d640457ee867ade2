/** Promises 21 and 24 to 28: stood, film, sheet, drop, item, copy. */
final class SheetsTest {
    private static final int MIN = Integer.MIN_VALUE, MAX = Integer.MAX_VALUE;
    private static Check c;

    public static void main(String[] args) {
        c = new Check("SheetsTest");
        sheet();
        drop();
        item();
        copy();
        film();
        stood();
        c.end();
    }

    /** With stairs that stand and nobody stood answers whether a row's items are 0; so it tells items apart. */
    private static boolean isZero(StairsThatGo x, int sheet, int lane, int i) {
        return x.stood(sheet, lane, i, 1) == 8;
    }

    private static void zeros(String name, StairsThatGo x, int sheet, int lane, String due) {
        StringBuilder got = new StringBuilder();
        for (int i = 0; i < due.length(); i++) {
            got.append(isZero(x, sheet, lane, i) ? '0' : 'x');
        }
        c.holds(name + ": " + got + ", due is " + due, got.toString().equals(due));
        c.due(name + ": no more items", x.item(sheet, lane, due.length(), 0), -13);
    }

    private static void sheet() {
        StairsThatGo x = new StairsThatGo();
        for (int bad : new int[] {MIN, -1, 4, MAX}) {
            c.due("sheet(" + bad + ", 0, 1)", x.sheet(bad, 0, 1), -1);
            c.due("BAD is ahead of SIZE", x.sheet(bad, 0, -1), -1);
        }
        for (int bad : new int[] {MIN, -1, 3, MAX}) {
            c.due("sheet(0, " + bad + ", 1)", x.sheet(0, bad, 1), -1);
            c.due("BAD is ahead of SIZE", x.sheet(0, bad, -1), -1);
        }
        c.due("sheet(0, 0, 17)", x.sheet(0, 0, 17), -1);
        c.due("sheet(0, 0, MAX)", x.sheet(0, 0, MAX), -1);
        c.due("sheet(0, 0, -1)", x.sheet(0, 0, -1), -14);
        c.due("sheet(0, 0, MIN)", x.sheet(0, 0, MIN), -14);
        c.due("what answers so changes nothing", x.drop(0), -11);
        c.due("sheet(0, 0, 0)", x.sheet(0, 0, 0), 0);
        c.due("sheet(3, 2, 16)", x.sheet(3, 2, 16), 16);
        c.due("sheet(1, 1, 3)", x.sheet(1, 1, 3), 3);
        zeros("new", x, 1, 1, "000");
        x.item(1, 1, 1, 5);
        zeros("one item", x, 1, 1, "0x0");
        c.due("a new row of the same size", x.sheet(1, 1, 3), 3);
        zeros("new again", x, 1, 1, "000");
        x.item(1, 1, 2, 5);
        c.due("a refused row", x.sheet(1, 2, -1), -14);
        c.due("a refused row", x.sheet(1, 2, 17), -1);
        zeros("the row as it was", x, 1, 1, "00x");
        c.due("another lane", x.sheet(1, 2, 2), 2);
        c.due("not as it was", x.item(1, 1, 0, 1), -12);
        zeros("of the other lane", x, 1, 2, "00");
        x.sheet(1, 2, 5);
        zeros("longer", x, 1, 2, "00000");
    }

    private static void drop() {
        StairsThatGo x = new StairsThatGo();
        for (int bad : new int[] {MIN, -1, 4, MAX}) {
            c.due("drop(" + bad + ")", x.drop(bad), -1);
        }
        for (int s = 0; s < 4; s++) {
            c.due("nothing in " + s, x.drop(s), -11);
            x.sheet(s, s % 3, 4 * s);
        }
        for (int s = 0; s < 4; s++) {
            c.due("drop(" + s + ")", x.drop(s), 4 * s);
            c.due("drop(" + s + ") again", x.drop(s), -11);
            c.due("item of what is dropped", x.item(s, s % 3, 0, 1), -11);
        }
    }

    private static void item() {
        StairsThatGo x = new StairsThatGo();
        c.due("no sheet", x.item(0, 0, 0, 0), -11);
        c.due("NULL is ahead of INDEX", x.item(0, 0, -1, 0), -11);
        x.sheet(0, 0, 3);
        for (int bad : new int[] {MIN, -1, 4, MAX}) {
            c.due("item(" + bad + ", 0, 0, 0)", x.item(bad, 0, 0, 0), -1);
        }
        for (int bad : new int[] {MIN, -1, 3, MAX}) {
            c.due("item(0, " + bad + ", 0, 0)", x.item(0, bad, 0, 0), -1);
            c.due("BAD is ahead of NULL", x.item(1, bad, 0, 0), -1);
            c.due("item(0, 0, " + bad + ", 0)", x.item(0, 0, bad, 0), -13);
            c.due("CAST is ahead of INDEX", x.item(0, 1, bad, 0), -12);
        }
        c.due("CAST", x.item(0, 1, 0, 0), -12);
        c.due("CAST", x.item(0, 2, 0, 0), -12);
        c.due("the last", x.item(0, 0, 2, 7), 1);
        zeros("the last", x, 0, 0, "00x");
        c.due("a byte's lowest bits", x.item(0, 0, 2, 256), 1);
        zeros("a byte's lowest bits", x, 0, 0, "000");
        x.sheet(0, 1, 2);
        x.item(0, 1, 0, 256);
        x.item(0, 1, 1, 65536);
        zeros("a short's lowest bits", x, 0, 1, "x0");
        x.sheet(0, 2, 2);
        x.item(0, 2, 0, 65536);
        x.item(0, 2, 1, MIN);
        zeros("an int's", x, 0, 2, "xx");
        x.sheet(0, 0, 0);
        c.due("an empty row", x.item(0, 0, 0, 1), -13);
        // the count 3 in the lowest bits
        x.stair(3, 1);
        x.of(0, 1, 1);
        Check.people(x, "0us;0us;0us");
        int[] v = {0x7F03, 0x7FFF0003, 3};
        for (int lane = 0; lane < 3; lane++) {
            x.sheet(2, lane, 1);
            x.item(2, lane, 0, v[lane]);
            c.due("3 in lane " + lane, x.stood(2, lane, 0, 1), 8);
            x.item(2, lane, 0, v[lane] | 128);
            c.due("131 or below 0 in lane " + lane, x.stood(2, lane, 0, 1), 0);
        }
    }

    private static void copy() {
        StairsThatGo x = new StairsThatGo();
        x.sheet(0, 0, 5);
        x.sheet(1, 0, 3);
        x.sheet(2, 1, 5);
        for (int bad : new int[] {MIN, -1, 4, MAX}) {
            c.due("copy from " + bad, x.copy(bad, 0, 0, 0, 1), -1);
            c.due("copy to " + bad, x.copy(0, 0, bad, 0, 1), -1);
            c.due("BAD is ahead of NULL", x.copy(3, 0, bad, 0, 1), -1);
        }
        c.due("from nothing", x.copy(3, 0, 0, 0, 1), -11);
        c.due("to nothing", x.copy(0, 0, 3, 0, 1), -11);
        c.due("NULL is ahead of INDEX", x.copy(0, -1, 3, 0, 1), -11);
        c.due("unlike lanes", x.copy(0, 0, 2, 0, 1), -12);
        c.due("CAST is ahead of INDEX", x.copy(0, 0, 2, 0, -1), -12);
        for (int bad : new int[] {MIN, -1, 6, MAX}) {
            c.due("from item " + bad, x.copy(0, bad, 1, 0, 0), -13);
            c.due("to item " + bad, x.copy(1, 0, 0, bad, 0), -13);
            c.due("items: " + bad, x.copy(0, 0, 0, 0, bad), -13);
            c.due("items from 1: " + bad, x.copy(0, 1, 0, 1, bad), -13);
        }
        c.due("more than there are", x.copy(1, 1, 0, 0, 3), -13);
        c.due("more than there is room for", x.copy(0, 0, 1, 1, 3), -13);
        c.due("none, just behind both", x.copy(0, 5, 1, 3, 0), 0);
        x.item(0, 0, 1, 7);
        x.item(0, 0, 4, 7);
        zeros("ahead", x, 0, 0, "0x00x");
        c.due("two to another", x.copy(0, 3, 1, 1, 2), 2);
        zeros("from", x, 0, 0, "0x00x");
        zeros("to", x, 1, 0, "00x");
        c.due("to the same, behind", x.copy(0, 0, 0, 1, 4), 4);
        zeros("behind", x, 0, 0, "00x00");
        c.due("to the same, ahead", x.copy(0, 1, 0, 0, 4), 4);
        zeros("before", x, 0, 0, "0x000");
        c.due("to the same place", x.copy(0, 0, 0, 0, 5), 5);
        zeros("the same", x, 0, 0, "0x000");
        c.due("refused ones change nothing", x.copy(0, 1, 1, 3, 1), -13);
        zeros("refused", x, 1, 0, "00x");
    }

    /** All that stood and film refuse alike. */
    private static void refused(boolean isFilm) {
        StairsThatGo x = new StairsThatGo();
        String name = isFilm ? "film" : "stood";
        x.sheet(0, 1, 12);
        int[][] calls = {
            {-1, 1, 0, 1, -1}, {4, 1, 0, 1, -1}, {MIN, 1, 0, 1, -1}, {MAX, 1, 0, 1, -1},
            {0, -1, 0, 1, -1}, {0, 3, 0, 1, -1}, {1, 3, 0, 1, -1}, {1, 0, 0, 0, -1}, {0, 0, 0, 11, -1},
            {0, 1, 0, 0, -1}, {0, 1, 0, 11, -1}, {0, 1, 0, -1, -1}, {0, 1, 0, MIN, -1}, {0, 1, 0, MAX, -1},
            {0, 1, -1, 11, -1}, {1, 1, 0, 1, -11}, {1, 1, -1, 1, -11}, {0, 0, 0, 1, -12}, {0, 2, -1, 1, -12},
            {0, 1, -1, 1, -13}, {0, 1, MIN, 1, -13}, {0, 1, 12, 1, -13}, {0, 1, 13, 1, -13}, {0, 1, MAX, 10, -13},
            {0, 1, 3, 10, -13}
        };
        for (int[] k : calls) {
            int got = isFilm ? x.film(k[0], k[1], k[2], k[3]) : x.stood(k[0], k[1], k[2], k[3]);
            c.due(name + "(" + k[0] + ", " + k[1] + ", " + k[2] + ", " + k[3] + ")", got, k[4]);
        }
        c.due(name + ", the last ten", isFilm ? x.film(0, 1, 2, 10) : x.stood(0, 1, 2, 10), isFilm ? 10 : 8);
        c.due(name + ", the last one", isFilm ? x.film(0, 1, 11, 1) : x.stood(0, 1, 11, 1), isFilm ? 1 : 8);
    }

    private static void film() {
        refused(true);
        StairsThatGo x = new StairsThatGo();
        x.stair(3, 1);
        x.of(0, 1, 1);
        // through by 9, 10, 33, 96 and not at all
        Check.people(x, "6us;7us;30us;93us;97us");
        x.sheet(2, 2, 12);
        x.item(2, 2, 0, 77);
        x.item(2, 2, 11, 77);
        c.due("film(2, 2, 1, 10)", x.film(2, 2, 1, 10), 10);
        int[] due = {77, 1, 2, 2, 3, 3, 3, 3, 3, 3, 4, 77};
        for (int i = 0; i < 12; i++) {
            c.due("item " + i, read(x, i), due[i]);
        }
        c.due("film(2, 2, 0, 2)", x.film(2, 2, 0, 2), 2);
        c.due("item 0", read(x, 0), 1);
        c.due("item 1", read(x, 1), 2);
        c.due("item 2", read(x, 2), 2);
        // the change is part of it
        x.change(8, 0);
        x.film(2, 2, 0, 1);
        c.due("with the change", read(x, 0), 2);
    }

    /** Item i of sheet 2, of ints: how many people by a tick make it; 77 for more than there can be. */
    private static int read(StairsThatGo x, int i) {
        x.image();
        for (int p = x.count(1); p > 0; p--) {
            x.strike(0);
        }
        x.change(0, 0);
        int found = 77;
        for (int k = 0; k <= 14 && found == 77; k++) {
            if ((x.stood(2, 2, i, 1) & 8) != 0) {
                found = k;
            }
            x.set(3, 40);
            x.set(0, 0);
            x.set(1, 9);
            x.set(2, 3);
            x.person(0, 0, 0);
        }
        x.restore();
        return found;
    }

    private static void stood() {
        refused(false);
        StairsThatGo x = new StairsThatGo();
        x.sheet(0, 0, 16);
        c.due("no stairs", x.stood(0, 0, 0, 10), 8);
        x.item(0, 0, 3, 1);
        c.due("no stairs, but a count", x.stood(0, 0, 0, 10), 0);
        c.due("no stairs, ahead of the count", x.stood(0, 0, 0, 3), 8);
        c.due("no stairs, behind the count", x.stood(0, 0, 4, 10), 8);
        x.stair(3, 1);
        x.stair(4, 1);
        x.stair(5, 1);
        x.of(0, 1, 1);
        x.of(1, 1, 1);
        x.of(2, 1, 2);
        Check.people(x, "0us;0us;6us;6us;0ds");
        // who want up are through at 3, 4, 9, 10, without stair 1 too; without stair 0 at 4, 5, 10, 11
        row(x, 4, 5);
        c.due("none stood, or stair 1", x.stood(0, 0, 0, 2), 8 + 2);
        row(x, 3, 5);
        c.due("stair 0 stood", x.stood(0, 0, 0, 2), 1);
        row(x, 3, 4);
        c.due("stair 2 stood", x.stood(0, 0, 0, 2), 4);
        row(x, 4, 4);
        c.due("none of these", x.stood(0, 0, 0, 2), 0);
        row(x, 4, 5);
        c.due("the first count alone", x.stood(0, 0, 0, 1), 8 + 2);
        // one that stands anyway stood as well
        x.of(2, 1, 0);
        x.film(0, 0, 5, 10);
        c.due("film and stood", x.stood(0, 0, 5, 10) & 12, 12);
        // by ticks 9, 19, 29: who is through at 19 and at 20
        x = new StairsThatGo();
        x.sheet(0, 0, 10);
        x.stair(3, 1);
        x.of(0, 1, 1);
        Check.people(x, "16us;17us");
        row(x, 0, 1, 2, 2);
        c.due("by 9, 19, 29, 39", x.stood(0, 0, 0, 4), 8);
        // standing all day: behind a change, too
        x = new StairsThatGo();
        x.sheet(1, 1, 10);
        x.stair(3, 1);
        x.person(0, 0, 0);
        x.change(5, 1);
        c.due("it goes later on", x.stood(1, 1, 0, 10), 1);
        x.change(5, 2);
        x.strike(0);
        x.person(0, 1, 0);
        c.due("it goes down later on", x.stood(1, 1, 0, 10), 1);
        x.change(5, 1);
        c.due("it goes up, for nobody", x.stood(1, 1, 0, 10), 9);
        x.strike(0);
        x.person(0, 0, 0);
        x.film(1, 1, 0, 10);
        c.due("as told", x.stood(1, 1, 0, 10), 8);
        x.stair(3, 1);
        x.stair(10, 1);
        x.change(5, 9 + 6 + 1);
        c.due("the others turn as told", x.stood(1, 1, 0, 10), 8 + 4 + 2);
    }

    private static void row(StairsThatGo x, int... counts) {
        for (int i = 0; i < counts.length; i++) {
            x.item(0, 0, i, counts[i]);
        }
    }
}
