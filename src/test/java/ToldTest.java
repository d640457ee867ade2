/** Promises 2 to 8 and 11: stair, of, set, change, person, told, strike, count. */
final class ToldTest {
    private static final int[] LOW = {0, 1, 1, 2, 1, 0, 0};
    private static final int[] HIGH = {1, 9, 3, 40, 9, 9, 10};
    private static final int[] FIRST = {1, 4, 2, 12, 3, 2, 5};
    private static final int MIN = Integer.MIN_VALUE, MAX = Integer.MAX_VALUE;

    public static void main(String[] args) {
        Check c = new Check("ToldTest");
        stair(c);
        of(c);
        set(c);
        change(c);
        person(c);
        strike(c);
        c.end();
    }

    private static void stair(Check c) {
        StairsThatGo x = new StairsThatGo();
        for (int length : new int[] {MIN, -1, 0, 2, 11, MAX}) {
            c.due("stair(" + length + ", 1)", x.stair(length, 1), -1);
        }
        for (int pace : new int[] {MIN, -1, 0, 3, MAX}) {
            c.due("stair(3, " + pace + ")", x.stair(3, pace), -1);
        }
        c.due("count(0)", x.count(0), 0);
        c.due("stair(3, 1)", x.stair(3, 1), 0);
        c.due("stair(10, 2)", x.stair(10, 2), 1);
        c.due("count(0)", x.count(0), 2);
        c.due("stair(7, 2)", x.stair(7, 2), 2);
        c.due("count(0)", x.count(0), 3);
        c.due("a fourth", x.stair(5, 1), -3);
        c.due("BAD is ahead of FULL", x.stair(2, 1), -1);
        c.due("count(0)", x.count(0), 3);
        int[][] is = {{3, 0, 1}, {10, 0, 2}, {7, 0, 2}};
        for (int s = 0; s < 3; s++) {
            for (int what = 0; what < 3; what++) {
                c.due("of(" + s + ", " + what + ")", x.of(s, what, is[s][what]), is[s][what]);
            }
        }
    }

    private static void of(Check c) {
        StairsThatGo x = new StairsThatGo();
        c.due("no stair yet", x.of(0, 0, 3), -1);
        x.stair(5, 2);
        x.stair(6, 1);
        int[][] ranges = {{3, 10}, {0, 2}, {1, 2}};
        int[] is = {6, 0, 1};
        for (int what = 0; what < 3; what++) {
            for (int v : new int[] {MIN, -1, ranges[what][0] - 1, ranges[what][1] + 1, MAX}) {
                c.due("of(1, " + what + ", " + v + ")", x.of(1, what, v), -1);
            }
            int was = is[what];
            for (int v = ranges[what][0]; v <= ranges[what][1]; v++) {
                c.due("of(1, " + what + ", " + v + ")", x.of(1, what, v), was);
                was = v;
            }
        }
        c.due("the other stair's length", x.of(0, 0, 5), 5);
        c.due("the other stair's way", x.of(0, 1, 0), 0);
        c.due("the other stair's pace", x.of(0, 2, 2), 2);
        for (int bad : new int[] {MIN, -1, 2, 3, MAX}) {
            c.due("of(" + bad + ", 0, 5)", x.of(bad, 0, 5), -1);
        }
        for (int bad : new int[] {MIN, -1, 3, MAX}) {
            c.due("of(0, " + bad + ", 1)", x.of(0, bad, 1), -1);
        }
    }

    private static void set(Check c) {
        StairsThatGo x = new StairsThatGo();
        for (int what = 0; what < 7; what++) {
            for (int v : new int[] {MIN, LOW[what] - 1, HIGH[what] + 1, MAX}) {
                c.due("set(" + what + ", " + v + ")", x.set(what, v), -1);
            }
            int was = FIRST[what];
            for (int v = LOW[what]; v <= HIGH[what]; v++) {
                c.due("set(" + what + ", " + v + ")", x.set(what, v), was);
                was = v;
            }
        }
        for (int what = 0; what < 7; what++) {
            c.due("set(" + what + ") again", x.set(what, LOW[what]), HIGH[what]);
        }
        for (int bad : new int[] {MIN, -1, 7, MAX}) {
            c.due("set(" + bad + ", 1)", x.set(bad, 1), -1);
        }
    }

    private static void change(Check c) {
        StairsThatGo x = new StairsThatGo();
        c.due("change(1, 0)", x.change(1, 0), 0);
        c.due("change(99, 26)", x.change(99, 26), 1);
        for (int bad : new int[] {MIN, -1, 100, MAX}) {
            c.due("change(" + bad + ", 0)", x.change(bad, 0), -1);
        }
        for (int bad : new int[] {MIN, -1, 27, MAX}) {
            c.due("change(5, " + bad + ")", x.change(5, bad), -1);
            c.due("change(0, " + bad + ")", x.change(0, bad), -1);
        }
        c.due("change(0, 5)", x.change(0, 5), 99);
        c.due("change(0, 0)", x.change(0, 0), 0);
        // a change may be told ahead of its stairs
        c.due("change(3, 1)", x.change(3, 1), 0);
        x.stair(3, 1);
        x.person(0, 0, 0);
        c.due("fate(0, 0)", x.fate(0, 0), 3);
        c.due("change(0, 1)", x.change(0, 1), 3);
        c.due("none: fate(0, 0)", x.fate(0, 0), -4);
    }

    private static void person(Check c) {
        StairsThatGo x = new StairsThatGo();
        for (int bad : new int[] {MIN, -1, 100, MAX}) {
            c.due("person(" + bad + ", 0, 0)", x.person(bad, 0, 0), -1);
        }
        for (int bad : new int[] {MIN, -1, 2, MAX}) {
            c.due("person(0, " + bad + ", 0)", x.person(0, bad, 0), -1);
        }
        for (int bad : new int[] {MIN, -1, 5, MAX}) {
            c.due("person(0, 0, " + bad + ")", x.person(0, 0, bad), -1);
        }
        c.due("count(1)", x.count(1), 0);
        int[] weights = {2, 2, 4, 1, 2};
        for (int p = 0; p < 14; p++) {
            c.due("person " + p, x.person(p * 7 + (p == 13 ? 8 : 0), p % 3 == 0 ? 1 : 0, p % 5), p);
        }
        c.due("a fifteenth", x.person(0, 0, 0), -3);
        c.due("BAD is ahead of FULL", x.person(0, 0, 5), -1);
        for (int p = 0; p < 14; p++) {
            c.due("told(" + p + ", 0)", x.told(p, 0), p * 7 + (p == 13 ? 8 : 0));
            c.due("told(" + p + ", 1)", x.told(p, 1), p % 3 == 0 ? 1 : 0);
            c.due("told(" + p + ", 2)", x.told(p, 2), p % 5);
            c.due("told(" + p + ", 3)", x.told(p, 3), weights[p % 5]);
        }
        for (int bad : new int[] {MIN, -1, 14, MAX}) {
            c.due("told(" + bad + ", 0)", x.told(bad, 0), -1);
            c.due("strike(" + bad + ")", x.strike(bad), -1);
        }
        for (int bad : new int[] {MIN, -1, 4, MAX}) {
            c.due("told(0, " + bad + ")", x.told(0, bad), -1);
        }
        c.due("count(1)", x.count(1), 14);
        c.due("count(2)", x.count(2), 9);
        for (int bad : new int[] {MIN, -1, 3, MAX}) {
            c.due("count(" + bad + ")", x.count(bad), -1);
        }
    }

    private static void strike(Check c) {
        StairsThatGo x = new StairsThatGo();
        c.due("nobody to strike", x.strike(0), -1);
        x.person(10, 0, 1);
        x.person(11, 1, 2);
        x.person(12, 0, 3);
        x.person(13, 1, 4);
        c.due("strike(1)", x.strike(1), 3);
        c.due("told(0, 0)", x.told(0, 0), 10);
        c.due("told(1, 0)", x.told(1, 0), 12);
        c.due("told(1, 1)", x.told(1, 1), 0);
        c.due("told(1, 2)", x.told(1, 2), 3);
        c.due("told(2, 0)", x.told(2, 0), 13);
        c.due("told(2, 1)", x.told(2, 1), 1);
        c.due("told(2, 2)", x.told(2, 2), 4);
        c.due("told(3, 0)", x.told(3, 0), -1);
        c.due("strike(2), the last", x.strike(2), 2);
        c.due("strike(2)", x.strike(2), -1);
        c.due("strike(0), the first", x.strike(0), 1);
        c.due("told(0, 0)", x.told(0, 0), 12);
        c.due("count(2)", x.count(2), 1);
        c.due("strike(0)", x.strike(0), 0);
        c.due("count(1)", x.count(1), 0);
        c.due("person, anew", x.person(1, 1, 1), 0);
        // one that is struck does not come
        x.stair(3, 1);
        x.of(0, 1, 2);
        x.person(1, 1, 1);
        c.due("the second waits", x.fate(1, 0), 2);
        x.strike(0);
        c.due("not without the first", x.fate(0, 0), 1);
    }
}
