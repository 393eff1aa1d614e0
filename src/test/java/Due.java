import java.io.IOException;
import java.nio.file.Files;
import java.nio.file.Path;

/**
 * What the tests of boundary cases share. Each begins with the words of the document that name the case: these must
 * stand there, in the promise or before the promises, and at least one answer must be looked at for them.
 */
final class Due {
    static final int NONE = -1, BAD = -2, NO = -3, SPENT = -5;
    static final int LOW = Integer.MIN_VALUE, HIGH = Integer.MAX_VALUE;

    private static final Path DOCUMENT = Path.of("../shared/DOC.md");
    private static String document = "";
    private static String sentence = "";
    private static int sentences;
    private static int looked;
    private static int wrong;

    private Due() {
    }

    static void begin() throws IOException {
        document = Files.readString(DOCUMENT);
        looked = 1;
    }

    /** Words before the promises: the head, the terms, what is refused. */
    static void terms(String words) {
        open("terms", section("# EvenBodies", "## Promise 1:"), words);
    }

    static void promise(int number, String words) {
        String next = number == 45 ? "## Not promised" : "## Promise " + (number + 1) + ":";
        open("promise " + number, section("## Promise " + number + ":", next), words);
    }

    private static String section(String from, String to) {
        int start = document.indexOf(from);
        int end = document.indexOf(to);
        return start < 0 || end < start ? "" : document.substring(start, end);
    }

    private static void open(String where, String section, String words) {
        nothingLeftOut();
        sentence = where + ", \"" + words + "\"";
        sentences++;
        looked = 0;
        if (!section.contains(words)) {
            fault("the document does not say it there");
        }
    }

    private static void nothingLeftOut() {
        if (looked == 0) {
            fault("no answer was looked at");
        }
    }

    static void fault(String text) {
        wrong++;
        if (wrong <= 60) {
            System.out.println(sentence + ": " + text);
        }
    }

    static void due(String call, long got, long want) {
        looked++;
        if (got != want) {
            fault(call + " answered " + got + ", due is " + want);
        }
    }

    static void end() {
        nothingLeftOut();
        System.out.println(sentences + " sentences, " + wrong + " answers are not as due");
        if (wrong != 0) {
            System.exit(1);
        }
    }

    // ---- bodies to ask

    /** A new object, whose body 0 has mirrors in a row: so many angles between neighbours, and one mirror more. */
    static EvenBodies row(int ringed, int... angles) {
        EvenBodies x = new EvenBodies();
        put(x, 0, ringed, angles);
        return x;
    }

    static void put(EvenBodies x, int b, int ringed, int... angles) {
        x.body(b, angles.length + 1);
        for (int i = 0; i < angles.length; i++) {
            x.angle(b, i, i + 1, angles[i]);
        }
        x.ring(b, ringed);
    }

    static EvenBodies cube() {
        return row(1, 4, 3);
    }

    static EvenBodies octahedron() {
        return row(4, 4, 3);
    }

    /** Three mirrors, all ringed, in a row of angles 2: eight elements, eight corners. */
    static EvenBodies box() {
        return row(7, 2, 2);
    }

    /** No end of elements. */
    static EvenBodies endless() {
        return row(1, 6, 3);
    }
}
