import java.io.IOException;
import java.nio.file.Files;
import java.nio.file.Path;
import java.util.function.IntUnaryOperator;

/** Counts the answers that are not as due; a test's main ends with end(). */
final class Check {
    private static final Path DOCUMENT = Path.of("../shared/DOC.md");

    private final String test;
    private int asked = 0;
    private int wrong = 0;
    private String document = "";
    private String sentence = "";
    private int sentences = 0;
    private int askedOfIt = 0;

    Check(String test) {
        this.test = test;
    }

    /** What is asked from here on is about these words, which the document must hold. */
    void sentence(String words) {
        endSentence();
        sentence = words;
        sentences++;
        if (!document().contains(words)) {
            fail("the document does not say so");
        }
    }

    /** A sentence of which nothing was asked is not tested. */
    private void endSentence() {
        if (sentences > 0 && askedOfIt == 0) {
            fail("nothing was asked");
        }
        askedOfIt = 0;
    }

    private String document() {
        if (document.isEmpty()) {
            try {
                document = Files.readString(DOCUMENT).replaceAll("\\s+", " ");
            } catch (IOException missing) {
                fail("there is no " + DOCUMENT);
                document = " ";
            }
        }
        return document;
    }

    private void fail(String why) {
        wrong++;
        System.out.println(test + ": " + why + (sentence.isEmpty() ? "" : " [" + sentence + "]"));
    }

    void due(String call, long got, long want) {
        asked++;
        askedOfIt++;
        if (got != want) {
            fail(call + " answered " + got + ", due is " + want);
        }
    }

    void holds(String what, boolean is) {
        due(what, is ? 1 : 0, 1);
    }

    /** What is just and what is far beyond low .. high is refused. */
    void refused(String call, int refusal, int low, int high, IntUnaryOperator ask) {
        for (int v : new int[] {Integer.MIN_VALUE, low - 1, high + 1, Integer.MAX_VALUE}) {
            due(call + " of " + v, ask.applyAsInt(v), refusal);
        }
    }

    /** All of low .. high is taken: no answer is below 0. */
    void taken(String call, int low, int high, IntUnaryOperator ask) {
        for (int v = low; v <= high; v++) {
            int got = ask.applyAsInt(v);
            holds(call + " of " + v + ", which answered " + got + ", is taken", got >= 0);
        }
    }

    void end() {
        endSentence();
        String about = sentences == 0 ? "" : " about " + sentences + " sentences";
        System.out.println(test + ": " + asked + " answers" + about + ", " + wrong + " not as due");
        if (wrong != 0) {
            System.exit(1);
        }
    }

    /** Types a text of any length onto the tape; what the last call answered. */
    static int type(StairsThatGo x, String text) {
        int answer = 0;
        for (int i = 0; i < text.length(); i += 8) {
            String part = text.substring(i, Math.min(i + 8, text.length()));
            answer = x.type(word(part), part.length());
        }
        return answer;
    }

    /** A text of up to eight bytes as type wants it. */
    static long word(String part) {
        long w = 0;
        for (int i = 0; i < part.length(); i++) {
            w = w << 8 | part.charAt(i);
        }
        return w;
    }

    /** Types a text and takes it as people. */
    static int people(StairsThatGo x, String text) {
        type(x, text);
        return x.people();
    }

    /** People by a text of any length, of which each eight are taken together. */
    static void crowd(StairsThatGo x, String text) {
        for (String one : text.split(";")) {
            people(x, one);
        }
    }

    /** An object with one stair that goes a way, and people. */
    static StairsThatGo day(int length, int pace, int way, String people) {
        StairsThatGo x = new StairsThatGo();
        addStair(x, length, pace, way);
        if (!people.isEmpty()) {
            crowd(x, people);
        }
        return x;
    }

    static void addStair(StairsThatGo x, int length, int pace, int way) {
        int number = x.stair(length, pace);
        x.of(number, 1, way);
    }

    /** So many of the same ones. */
    static String times(int n, String one) {
        return (one + ";").repeat(n);
    }
}
