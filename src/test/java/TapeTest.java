/** Promises 9 and 10: type, people. */
final class TapeTest {
    public static void main(String[] args) {
        Check c = new Check("TapeTest");
        type(c);
        texts(c);
        faults(c);
        full(c);
        c.end();
    }

    private static void type(Check c) {
        StairsThatGo x = new StairsThatGo();
        long eight = Check.word("12345678");
        for (int bad : new int[] {Integer.MIN_VALUE, -1, 0, 9, Integer.MAX_VALUE}) {
            c.due("type(w, " + bad + ")", x.type(eight, bad), -1);
        }
        c.due("byte 31", x.type(31, 1), -1);
        c.due("byte 127", x.type(127, 1), -1);
        c.due("byte 255", x.type(-1L, 1), -1);
        c.due("a bad byte ahead", x.type(31L << 8 | '5', 2), -1);
        c.due("which does not count here", x.type(31L << 8 | '5', 1), 1);
        c.due("a bad byte, the highest of eight", x.type(0x8035353535353535L, 8), -1);
        c.due("byte 32", x.type(32, 1), 2);
        c.due("byte 126", x.type(126, 1), 3);
        c.due("people()", x.people(), -22);
        // the highest of the n lowest come first
        c.due("5us of more", x.type(Check.word("99995us"), 3), 3);
        c.due("people()", x.people(), 1);
        c.due("told(0, 0)", x.told(0, 0), 5);
        for (int k = 1; k <= 9; k++) {
            c.due("type, eight more", x.type(Check.word("        "), 8), 8 * k);
        }
        c.due("seven more", x.type(Check.word("       "), 7), 79);
        c.due("two more are too many", x.type(Check.word("7u"), 2), -3);
        c.due("BAD is ahead of FULL", x.type(31L << 8 | 55, 2), -1);
        c.due("BAD is ahead of FULL", x.type(55, 9), -1);
        c.due("one more", x.type(Check.word("7"), 1), 80);
        c.due("one more is too many", x.type(Check.word("u"), 1), -3);
        c.due("the end of eighty", x.people(), -100);
        c.due("the tape is empty then", x.people(), -20);
    }

    private static void took(Check c, String text, int[]... due) {
        StairsThatGo x = new StairsThatGo();
        c.due("people() of '" + text + "'", Check.people(x, text), due.length);
        c.due("count(1) of '" + text + "'", x.count(1), due.length);
        for (int p = 0; p < due.length; p++) {
            for (int what = 0; what < 3; what++) {
                c.due("told(" + p + ", " + what + ") of '" + text + "'", x.told(p, what), due[p][what]);
            }
        }
        c.due("the tape is empty behind '" + text + "'", x.people(), -20);
    }

    private static void texts(Check c) {
        took(c, "0us", new int[] {0, 0, 0});
        took(c, "99df", new int[] {99, 1, 4});
        took(c, "1us;2uw;3ub;4uc;5uf;6ds;7dw;8db", new int[] {1, 0, 0}, new int[] {2, 0, 1}, new int[] {3, 0, 2},
            new int[] {4, 0, 3}, new int[] {5, 0, 4}, new int[] {6, 1, 0}, new int[] {7, 1, 1}, new int[] {8, 1, 2});
        took(c, "  12  u  w  ;  7  d  b  ", new int[] {12, 0, 1}, new int[] {7, 1, 2});
        took(c, "00000000000000000000099us", new int[] {99, 0, 0});
        took(c, "000uc", new int[] {0, 0, 3});
        // people come behind those that are there
        StairsThatGo x = new StairsThatGo();
        x.person(50, 1, 1);
        c.due("people() behind one", Check.people(x, "8ub"), 1);
        c.due("told(0, 0)", x.told(0, 0), 50);
        c.due("told(1, 0)", x.told(1, 0), 8);
    }

    private static void fault(Check c, String text, int place) {
        StairsThatGo x = new StairsThatGo();
        x.person(3, 0, 0);
        c.due("people() of '" + text + "'", Check.people(x, text), -20 - place);
        c.due("none comes of '" + text + "'", x.count(1), 1);
        c.due("the tape is empty behind '" + text + "'", x.people(), -20);
    }

    private static void faults(Check c) {
        fault(c, "", 0);
        fault(c, "   ", 3);
        fault(c, "5", 1);
        fault(c, "5 ", 2);
        fault(c, "5u", 2);
        fault(c, "5u  ", 4);
        fault(c, "5us;", 4);
        fault(c, "5us; ", 5);
        fault(c, "u", 0);
        fault(c, " us", 1);
        fault(c, ";5us", 0);
        fault(c, "-5us", 0);
        fault(c, "5x", 1);
        fault(c, "5U", 1);
        fault(c, "5s", 1);
        fault(c, "5ux", 2);
        fault(c, "5uS", 2);
        fault(c, "5u5", 2);
        fault(c, "5uu", 2);
        fault(c, "5us5", 3);
        fault(c, "5us,5us", 3);
        fault(c, "5us;;5us", 4);
        fault(c, "5us  x", 5);
        fault(c, "5 5us", 2);
        fault(c, "100us", 0);
        fault(c, "  100us", 2);
        fault(c, "00100us", 0);
        fault(c, "100x", 0);
        fault(c, "1us; 999us", 5);
        fault(c, "4294967296us", 0);
        fault(c, "99999999999999999999999999999999us", 0);
        fault(c, "1us;2us;3us;x", 12);
        // the ninth of a text can't come, nor what would lead to it
        fault(c, "0us;0us;0us;0us;0us;0us;0us;0us;", 31);
        fault(c, "0us;0us;0us;0us;0us;0us;0us;0us ;0us", 32);
        fault(c, "0us;0us;0us;0us;0us;0us;0us;0us?", 31);
    }

    private static void full(Check c) {
        StairsThatGo x = new StairsThatGo();
        for (int p = 0; p < 12; p++) {
            x.person(p, 0, 0);
        }
        c.due("three for two", Check.people(x, "1us;2us;3us"), -3);
        c.due("none comes", x.count(1), 12);
        c.due("the tape is empty then", x.people(), -20);
        c.due("a fault is ahead of FULL", Check.people(x, "1us;2us;3u"), -30);
        c.due("two for two", Check.people(x, "1us;2us"), 2);
        c.due("one for none", Check.people(x, "1us"), -3);
        c.due("count(1)", x.count(1), 14);
    }
}
