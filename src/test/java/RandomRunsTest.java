/** Long runs of calls, drawn by a fixed rule, answered by the class and by the model of the document alike. */
final class RandomRunsTest {
    private static final int[] ODD = {Integer.MIN_VALUE, Integer.MIN_VALUE + 1, -100, -2, -1, 11, 17, 27, 100, 1000,
        Integer.MAX_VALUE - 1, Integer.MAX_VALUE};
    private static final String[] BITS = {"0", "5", "9", "07", "100", "u", "d", "s", "w", "b", "c", "f", ";", " ", "x"};

    private long seed;
    private StairsThatGo x;
    private Model m;
    private final Check c;
    private final StringBuilder trace = new StringBuilder();
    private boolean isRight;

    private RandomRunsTest(Check c) {
        this.c = c;
    }

    public static void main(String[] args) {
        Check c = new Check("RandomRunsTest");
        RandomRunsTest t = new RandomRunsTest(c);
        int runs = args.length > 0 ? Integer.parseInt(args[0]) : 120;
        for (int run = 1; run <= runs && t.run(run, run % 10 == 0 ? 3 : 2); run++) {
            continue;
        }
        c.end();
    }

    private int draw(int below) {
        seed = seed * 6364136223846793005L + 1442695040888963407L;
        return (int) ((seed >>> 33) % below);
    }

    /** Mostly low .. high, at times what is odd. */
    private int near(int low, int high) {
        int dice = draw(40);
        return dice == 0 ? ODD[draw(ODD.length)] : dice == 1 ? low - 1 : dice == 2 ? high + 1
            : low + draw(high - low + 1);
    }

    private void same(String call, int got, int want) {
        trace.append(call).append(" = ").append(want).append('\n');
        isRight &= got == want;
        c.due(call, got, want);
    }

    private boolean run(int number, int stairs) {
        seed = number * 7919L;
        x = new StairsThatGo();
        m = new Model();
        trace.setLength(0);
        isRight = true;
        for (int s = 0; s < stairs; s++) {
            stair(3 + draw(4), 1 + draw(2));
            of(s, 1, 1 + draw(2));
        }
        set(1, 1 + draw(3));
        set(2, 1 + draw(2));
        set(3, 4 + draw(8));
        for (int p = 0; p < 6 + draw(8); p++) {
            person(draw(12), draw(2), draw(5));
        }
        for (int k = 0; k < 80 && isRight; k++) {
            tell();
            ask();
            ask();
            if (draw(4) == 0) {
                sheets();
            }
        }
        for (int k = 0; k < 4 && isRight && m.told.stairs.size() < 3; k++) {
            int tick = 1 + draw(20);
            int what = draw(3);
            same("best(" + tick + ", " + what + ")", x.best(tick, what), m.best(tick, what));
        }
        if (!isRight) {
            System.out.println("run " + number + ":\n" + trace);
        }
        return isRight;
    }

    private void stair(int length, int pace) {
        same("stair(" + length + ", " + pace + ")", x.stair(length, pace), m.stair(length, pace));
    }

    private void of(int s, int what, int v) {
        same("of(" + s + ", " + what + ", " + v + ")", x.of(s, what, v), m.of(s, what, v));
    }

    private void set(int what, int v) {
        same("set(" + what + ", " + v + ")", x.set(what, v), m.set(what, v));
    }

    private void person(int tick, int floor, int kind) {
        same("person(" + tick + ", " + floor + ", " + kind + ")",
            x.person(tick, floor, kind), m.person(tick, floor, kind));
    }

    private void tell() {
        switch (draw(12)) {
            case 0: if (draw(6) == 0) stair(near(3, 10), near(1, 2)); break;
            case 1: of(near(0, 1), 1, near(0, 2)); break;
            case 2: {
                int what = near(0, 2);
                of(near(0, 2), what, near(what == 0 ? 3 : what == 1 ? 0 : 1, what == 0 ? 10 : 2));
                break;
            }
            case 3: {
                int what = near(0, 6);
                int[] high = {1, 9, 3, 40, 9, 9, 10};
                set(what, near(what == 3 ? 2 : what == 1 || what == 2 || what == 4 ? 1 : 0,
                    what < 0 || what > 6 ? 5 : draw(2) == 0 ? high[what] : Math.min(6, high[what])));
                break;
            }
            case 4: {
                int tick = draw(3) == 0 ? 0 : near(1, draw(2) == 0 ? 99 : 14);
                int ways = near(0, 26);
                same("change(" + tick + ", " + ways + ")", x.change(tick, ways), m.change(tick, ways));
                break;
            }
            case 5:
            case 6: person(near(0, draw(4) == 0 ? 99 : 15), near(0, 1), near(0, 4)); break;
            case 7: {
                int p = near(0, 13);
                same("strike(" + p + ")", x.strike(p), m.strike(p));
                break;
            }
            case 8: text(); break;
            case 9: if (draw(5) == 0) same("image()", x.image(), m.image()); break;
            case 10: if (draw(8) == 0) same("restore()", x.restore(), m.restore()); break;
            default: break;
        }
    }

    private void text() {
        StringBuilder text = new StringBuilder();
        for (int k = 0; k <= draw(9); k++) {
            text.append(k == 0 ? "" : ";").append(draw(20)).append(draw(2) == 0 ? "u" : "d").append(BITS[7 + draw(5)]);
        }
        for (int k = draw(4); k > 0; k--) {
            text.insert(draw(text.length() + 1), BITS[draw(BITS.length)]);
        }
        for (int i = 0; i < text.length(); i += 8) {
            String part = text.substring(i, Math.min(i + 8, text.length()));
            long w = Check.word(part);
            int n = near(part.length(), part.length());
            same("type(" + w + ", " + n + ")", x.type(w, n), m.type(w, n));
        }
        same("people() of " + text, x.people(), m.people());
    }

    private void ask() {
        switch (draw(14)) {
            case 0: {
                int p = near(0, 13);
                int what = near(0, 3);
                same("told(" + p + ", " + what + ")", x.told(p, what), m.told(p, what));
                break;
            }
            case 1: {
                int what = near(0, 2);
                same("count(" + what + ")", x.count(what), m.count(what));
                break;
            }
            case 2:
            case 3: {
                int p = near(0, 13);
                for (int what = -1; what <= 5; what++) {
                    same("fate(" + p + ", " + what + ")", x.fate(p, what), m.fate(p, what));
                }
                break;
            }
            case 4:
            case 5: {
                int tick = near(0, draw(3) == 0 ? 99 : 25);
                for (int what = -1; what <= 5; what++) {
                    same("at(" + tick + ", " + what + ")", x.at(tick, what), m.at(tick, what));
                }
                break;
            }
            case 6:
            case 7: {
                int tick = near(0, draw(3) == 0 ? 99 : 25);
                int s = near(0, 1);
                for (int step = -1; step <= 6; step++) {
                    int place = near(0, 1);
                    same("on(" + tick + ", " + s + ", " + step + ", " + place + ")",
                        x.on(tick, s, step, place), m.on(tick, s, step, place));
                }
                break;
            }
            case 8:
            case 9: {
                for (int what = -1; what <= 7; what++) {
                    same("all(" + what + ")", x.all(what), m.all(what));
                }
                break;
            }
            case 10: {
                int tick = near(0, 99);
                int what = near(0, 1);
                same("thrift(" + tick + ", " + what + ")", x.thrift(tick, what), m.thrift(tick, what));
                break;
            }
            case 11: {
                int p = near(0, 13);
                same("costs(" + p + ")", x.costs(p), m.costs(p));
                break;
            }
            case 12: same("rules()", x.rules(), m.rules()); break;
            default: {
                if (draw(4) == 0) {
                    int what = near(0, 1);
                    same("ways(" + what + ")", x.ways(what), m.ways(what));
                }
                break;
            }
        }
    }

    private void sheets() {
        int sheet = near(0, 3);
        int lane = near(0, 2);
        if (m.sheets[Math.floorMod(sheet, 4)] != null && draw(4) != 0) {
            lane = m.lanes[Math.floorMod(sheet, 4)];
        }
        int i = draw(2) == 0 ? 0 : near(0, 16);
        int n = near(1, 10);
        switch (draw(6)) {
            case 0: {
                int size = near(0, 16);
                same("sheet(" + sheet + ", " + lane + ", " + size + ")",
                    x.sheet(sheet, lane, size), m.sheet(sheet, lane, size));
                break;
            }
            case 1: if (draw(6) == 0) same("drop(" + sheet + ")", x.drop(sheet), m.drop(sheet)); break;
            case 2: {
                int v = draw(2) == 0 ? draw(15) : draw(15) + (draw(1000) << 8);
                same("item(" + sheet + ", " + lane + ", " + i + ", " + v + ")",
                    x.item(sheet, lane, i, v), m.item(sheet, lane, i, v));
                break;
            }
            case 3: {
                int to = near(0, 3);
                int j = near(0, 8);
                same("copy(" + sheet + ", " + i + ", " + to + ", " + j + ", " + n + ")",
                    x.copy(sheet, i, to, j, n), m.copy(sheet, i, to, j, n));
                break;
            }
            default: {
                same("film(" + sheet + ", " + lane + ", " + i + ", " + n + ")",
                    x.film(sheet, lane, i, n), m.film(sheet, lane, i, n));
                break;
            }
        }
        same("stood(" + sheet + ", " + lane + ", " + i + ", " + n + ")",
            x.stood(sheet, lane, i, n), m.stood(sheet, lane, i, n));
    }
}
