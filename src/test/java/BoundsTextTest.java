/** Each sentence about the tape and the text of people that names a boundary: promises 9 and 10, and the TEXT. */
final class BoundsTextTest {
    private static Check c;

    public static void main(String[] args) {
        c = new Check("BoundsTextTest");
        bytesOfAWord();
        refusedWords();
        fullTape();
        takenTape();
        faultOfTape();
        notAllHaveRoom();
        oneToEight();
        forms();
        faults();
        theEnd();
        blanks();
        numbers();
        c.end();
    }

    private static void bytesOfAWord() {
        c.sentence("The n lowest bytes (1 .. 8) of w, of these the highest first, come behind THE TAPE: "
            + "how many it has.");
        StairsThatGo x = new StairsThatGo();
        c.refused("type(w, n)", -1, 1, 8, n -> x.type(Check.word("12345678"), n));
        c.due("one byte", x.type(Check.word("1"), 1), 1);
        c.due("behind it", x.type(Check.word("2us"), 3), 4);
        c.due("people()", x.people(), 1);
        c.due("told(0, 0)", x.told(0, 0), 12);
        c.due("eight bytes", x.type(Check.word("34uw;5df"), 8), 8);
        c.due("people()", x.people(), 2);
        c.due("told(1, 0)", x.told(1, 0), 34);
        c.due("told(2, 0)", x.told(2, 0), 5);
        c.due("told(2, 1)", x.told(2, 1), 1);
        c.due("told(2, 2)", x.told(2, 2), 4);
        // bytes above the n lowest count for nothing, whatever they are
        int[] due = {-20, -20, 1, 1, 1, 1, 1};
        int[] tick = {-1, -1, 7, 67, 67, 67, 67};
        for (int n = 1; n <= 7; n++) {
            StairsThatGo y = new StairsThatGo();
            long above = -1L << 8 * n;
            c.due(n + " of eight bytes", y.type(above | Check.word("00067us".substring(7 - n)), n), n);
            c.due("people() of " + n, y.people(), due[n - 1]);
            c.due("told(0, 0) of " + n, y.told(0, 0), tick[n - 1]);
        }
    }

    private static void refusedWords() {
        c.sentence("BAD: n, a byte not 32 .. 126; FULL: 80.");
        StairsThatGo x = new StairsThatGo();
        for (int b : new int[] {0, 1, 31, 127, 128, 159, 160, 254, 255}) {
            c.due("byte " + b, x.type(b, 1), -1);
            for (int k = 0; k < 8; k++) {
                long w = Check.word("        ") & ~(255L << 8 * k) | (long) b << 8 * k;
                c.due("byte " + b + " at " + k + " of eight", x.type(w, 8), -1);
            }
        }
        c.due("Long.MIN_VALUE", x.type(Long.MIN_VALUE, 8), -1);
        c.due("Long.MAX_VALUE", x.type(Long.MAX_VALUE, 8), -1);
        c.due("-1", x.type(-1L, 1), -1);
        c.due("0", x.type(0L, 1), -1);
        c.due("nothing is typed", x.type(32, 1), 1);
        c.due("the highest byte there is", x.type(126, 1), 2);
        c.due("eight of them", x.type(0x7E7E7E7E7E7E7E7EL, 8), 10);
        c.due("the first is the fault", x.people(), -21);
    }

    private static void fullTape() {
        c.sentence("FULL: 80.");
        StairsThatGo x = new StairsThatGo();
        for (int k = 1; k <= 10; k++) {
            c.due("eight more", x.type(Check.word("        "), 8), 8 * k);
        }
        for (int n = 1; n <= 8; n++) {
            int more = n;
            c.due(n + " more", x.type(Check.word("        "), more), -3);
        }
        c.due("a bad byte is ahead of FULL", x.type(31, 1), -1);
        c.due("a bad n is ahead of FULL", x.type(32, 0), -1);
        c.due("the end of eighty", x.people(), -100);
        for (int k = 1; k <= 9; k++) {
            x.type(Check.word("        "), 8);
        }
        c.due("four more", x.type(Check.word("    "), 4), 76);
        for (int n = 5; n <= 8; n++) {
            c.due(n + " are too many", x.type(Check.word("7us;8us;"), n), -3);
        }
        c.due("nothing of them is typed", x.type(Check.word("9us"), 3), 79);
        c.due("the last byte", x.type(32, 1), 80);
        c.due("one more", x.type(32, 1), -3);
        c.due("all eighty", x.people(), 1);
        c.due("told(0, 0)", x.told(0, 0), 9);
        c.due("the tape begins again", x.type(32, 1), 1);
    }

    private static void takenTape() {
        c.sentence("THE TAPE, which is empty then (by a FAULT, by FULL, too), is PEOPLE that come, too: how many.");
        StairsThatGo x = new StairsThatGo();
        x.person(3, 1, 3);
        c.due("two", Check.people(x, "8us;9dw"), 2);
        c.due("count(1)", x.count(1), 3);
        c.due("told(0, 0), who was there", x.told(0, 0), 3);
        c.due("told(1, 0)", x.told(1, 0), 8);
        c.due("told(2, 0)", x.told(2, 0), 9);
        c.due("empty", x.people(), -20);
        c.due("a fault", Check.people(x, "8ux"), -22);
        c.due("empty by a fault", x.people(), -20);
        c.due("typed behind a fault", x.type(32, 1), 1);
        x.people();
        c.due("eight", Check.people(x, "1us;1us;1us;1us;1us;1us;1us;1us"), 8);
        c.due("FULL", Check.people(x, "1us;1us;1us;1us"), -3);
        c.due("empty by FULL", x.people(), -20);
        c.due("three", Check.people(x, "1us;1us;1us"), 3);
        c.due("count(1)", x.count(1), 14);
    }

    private static void faultOfTape() {
        c.sentence("A FAULT (none comes)");
        StairsThatGo x = new StairsThatGo();
        c.due("the second is at fault", Check.people(x, "1us;2ux"), -26);
        c.due("nobody", x.count(1), 0);
        c.due("the end is", Check.people(x, "1us;2us;"), -28);
        c.due("nobody", x.count(1), 0);
        c.due("the eighth is", Check.people(x, "1us;2us;3us;4us;5us;6us;7us;8u"), -50);
        c.due("nobody", x.count(1), 0);
    }

    private static void notAllHaveRoom() {
        c.sentence("FULL: not all have room (none comes).");
        for (int there = 6; there <= 14; there++) {
            for (int more = 1; more <= 8; more++) {
                StairsThatGo x = new StairsThatGo();
                for (int p = 0; p < there; p++) {
                    x.person(0, 0, 0);
                }
                String text = Check.times(more, "1us");
                boolean fits = there + more <= 14;
                c.due(more + " to " + there, Check.people(x, text.substring(0, text.length() - 1)), fits ? more : -3);
                c.due("how many then", x.count(1), fits ? there + more : there);
            }
        }
        c.sentence("A FAULT (none comes); FULL: not all have room (none comes).");
        StairsThatGo x = new StairsThatGo();
        Check.crowd(x, Check.times(14, "1us"));
        c.due("FULL", Check.people(x, "1us"), -3);
        c.due("a fault is ahead of it", Check.people(x, "1us;"), -24);
        c.due("no text is a fault", x.people(), -20);
    }

    private static void oneToEight() {
        c.sentence("PEOPLE are a TEXT: 1 to 8 with ; between");
        for (int n = 1; n <= 8; n++) {
            String text = Check.times(n, "1us");
            c.due(n + " of them", new Text(text.substring(0, text.length() - 1)).answer, n);
            c.due(n + " of them and one more ;", new Text(text).answer, n < 8 ? -20 - 4 * n : -51);
        }
        c.due("none", new Text("").answer, -20);
        c.due("nine", new Text("1us;1us;1us;1us;1us;1us;1us;1us;1us").answer, -51);
        c.due("; ahead", new Text(";1us").answer, -20);
        c.due("two ;", new Text("1us;;1us").answer, -24);
        c.due("no ; between", new Text("1us1us").answer, -23);
        c.due("no ; between, but a blank", new Text("1us 1us").answer, -24);
        c.due("another sign between", new Text("1us:1us").answer, -23);
    }

    /** What becomes of a text on a new object's tape. */
    private static final class Text {
        final StairsThatGo x = new StairsThatGo();
        final int answer;

        Text(String text) {
            answer = Check.people(x, text);
        }
    }

    private static void forms() {
        c.sentence("a number (TICK), u or d (FLOOR 0 to go up, FLOOR 1 to go down), a KIND's letter s w b c f "
            + "(in the order of KINDS)");
        for (int floor = 0; floor < 2; floor++) {
            for (int kind = 0; kind < 5; kind++) {
                Text one = new Text("42" + "ud".charAt(floor) + "swbcf".charAt(kind));
                c.due("people()", one.answer, 1);
                c.due("tick", one.x.told(0, 0), 42);
                c.due("floor", one.x.told(0, 1), floor);
                c.due("kind", one.x.told(0, 2), kind);
            }
        }
        for (int b = 33; b <= 126; b++) {
            char sign = (char) b;
            boolean digit = sign >= '0' && sign <= '9';
            c.due("first " + sign, new Text(sign + "us").answer, digit ? 1 : -20);
            c.due("second " + sign, new Text("4" + sign + "s").answer,
                sign == 'u' || sign == 'd' ? 1 : digit ? -22 : -21);
            c.due("third " + sign, new Text("4u" + sign).answer, "swbcf".indexOf(sign) >= 0 ? 1 : -22);
            c.due("fourth " + sign, new Text("4us" + sign).answer, sign == ';' ? -24 : -23);
        }
    }

    private static void faults() {
        c.sentence("FAULTS: -20 less the place of the first byte (behind blanks) that can't stand there");
        c.due("at 0", new Text("x").answer, -20);
        c.due("at 3, behind blanks", new Text("   x").answer, -23);
        c.due("behind a number and a blank", new Text("5 x").answer, -22);
        c.due("behind a floor and blanks", new Text("5u  x").answer, -24);
        c.due("behind a kind and a blank", new Text("5us x").answer, -24);
        c.due("behind a ; and a blank", new Text("5us; x").answer, -25);
        c.due("the first of two", new Text("5xy").answer, -21);
        String blanks = " ".repeat(79);
        c.due("at 79, the last of all", new Text(blanks + "x").answer, -99);
        c.due("at 79, where a number ends", new Text(blanks + "5").answer, -100);
    }

    private static void theEnd() {
        c.sentence("(the end: how many bytes there are)");
        String text = "5us;6d ";
        int[] due = {-20, -21, -22, 1, -24, -25, -26, -27};
        for (int n = 0; n <= text.length(); n++) {
            c.due("'" + text.substring(0, n) + "'", new Text(text.substring(0, n)).answer, due[n]);
        }
        c.due("a blank", new Text(" ").answer, -21);
        c.due("eighty blanks", new Text(" ".repeat(80)).answer, -100);
    }

    private static void blanks() {
        c.sentence("bytes 32 count for nothing, but end a number");
        c.due("anywhere", new Text("  5  u  s  ;  6  d  w  ").answer, 2);
        Text two = new Text("  5  u  s  ;  6  d  w  ");
        c.due("the first", two.x.told(0, 0), 5);
        c.due("the second", two.x.told(1, 0), 6);
        c.due("which ends a number", new Text("1 2us").answer, -22);
        c.due("which ends 0s", new Text("0 5us").answer, -22);
        c.due("ahead of a number beyond 99 only in parts", new Text("99 9us").answer, -23);
    }

    private static void numbers() {
        c.sentence("a number may have 0s ahead");
        for (String text : new String[] {"7us", "07us", "007us", "0000000007us"}) {
            Text one = new Text(text);
            c.due(text, one.answer, 1);
            c.due("tick of " + text, one.x.told(0, 0), 7);
        }
        c.due("seventy-eight bytes", new Text("0".repeat(76) + "99us").answer, 1);
        c.due("0s alone", new Text("000us").x.told(0, 0), 0);
        c.sentence("of a number that may not be its first byte");
        c.due("99", new Text("99us").answer, 1);
        c.due("100", new Text("100us").answer, -20);
        c.due("0100", new Text("0100us").answer, -20);
        c.due("behind blanks", new Text("  100us").answer, -22);
        c.due("behind another", new Text("5us; 100us").answer, -25);
        c.due("ahead of what else can't stand there", new Text("100x").answer, -20);
        c.due("at the end", new Text("100").answer, -20);
        // numbers that wrap around where they are held in 32 or 64 bits
        for (String number : new String[] {"4294967296", "4294967297", "2147483648", "18446744073709551616",
            "18446744073709551617", "9223372036854775808", "1" + "0".repeat(77)}) {
            c.due(number, new Text(number + "us").answer, -20);
        }
    }
}
