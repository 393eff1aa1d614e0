import java.io.IOException;

/** The boundary cases of promises 7 to 16: the group. */
public final class BoundsGroupTest {
    private static final int LAST = 47;

    public static void main(String[] args) throws IOException {
        Due.begin();
        size();
        length();
        letter();
        element();
        digitThatIsNone();
        product();
        inverse();
        turns();
        classSize();
        ofLength();
        mirrors();
        Due.end();
    }

    private static void dueNoElement(String call, int length, int[] answers) {
        for (int k = 0; k < length; k++) {
            Due.due(call + ", no element " + k, answers[k], Due.BAD);
        }
    }

    private static void size() {
        Due.promise(7, "How many ELEMENTS.");
        Due.due("the fewest", new EvenBodies().size(3), 2);
        Due.due("the most", Due.row(1, 3, 3, 4).size(0), 384);
        Due.promise(7, "BAD, SPENT.");
        Due.due("size(-1)", new EvenBodies().size(-1), Due.BAD);
        Due.due("size(4)", new EvenBodies().size(4), Due.BAD);
        Due.due("no end", Due.endless().size(0), Due.SPENT);
        Due.due("1152, above 500", Due.row(1, 3, 4, 3).size(0), Due.SPENT);
    }

    private static void length() {
        EvenBodies x = Due.cube();
        Due.promise(8, "How long an ELEMENT's WORD is.");
        Due.due("of 0", x.length(0, 0), 0);
        Due.due("of 1", x.length(0, 1), 1);
        Due.due("of the last", x.length(0, LAST), 9);
        Due.promise(8, "BAD: also not so many");
        int[] got = {x.length(0, LAST + 1), x.length(0, -1), x.length(0, Due.LOW), x.length(0, Due.HIGH),
            x.length(0, 500), x.length(-1, 0), x.length(4, 0), x.length(1, 2)};
        dueNoElement("length", got.length, got);
        Due.promise(8, "SPENT.");
        Due.due("no end", Due.endless().length(0, 0), Due.SPENT);
    }

    private static void letter() {
        EvenBodies x = Due.cube();
        Due.promise(9, "Letter i of it.");
        Due.due("the first of 1", x.letter(0, 1, 0), 0);
        Due.due("the first of 3", x.letter(0, 3, 0), 2);
        // The longest word, the first by numbers of all that are as long: 0 1 0 1 2 1 0 1 2.
        int[] word = {0, 1, 0, 1, 2, 1, 0, 1, 2};
        for (int i = 0; i < word.length; i++) {
            Due.due("letter " + i + " of the last", x.letter(0, LAST, i), word[i]);
        }
        Due.promise(9, "NONE: not so many.");
        Due.due("none of 0", x.letter(0, 0, 0), Due.NONE);
        Due.due("no second of 1", x.letter(0, 1, 1), Due.NONE);
        Due.due("no tenth of the last", x.letter(0, LAST, 9), Due.NONE);
        Due.due("far beyond", x.letter(0, LAST, Due.HIGH), Due.NONE);
        Due.due("far beyond, of 0", x.letter(0, 0, Due.HIGH), Due.NONE);
        Due.promise(9, "BAD: i below 0, too");
        Due.due("letter(0, 0, -1)", x.letter(0, 0, -1), Due.BAD);
        Due.due("letter(0, 47, -1)", x.letter(0, LAST, -1), Due.BAD);
        Due.due("letter(0, 47, lowest)", x.letter(0, LAST, Due.LOW), Due.BAD);
        int[] got = {x.letter(0, LAST + 1, 0), x.letter(0, -1, 0), x.letter(0, LAST + 1, Due.HIGH),
            x.letter(0, Due.HIGH, 0), x.letter(0, Due.LOW, 0), x.letter(4, 0, 0), x.letter(-1, 0, 0)};
        dueNoElement("letter", got.length, got);
        Due.promise(9, "SPENT.");
        Due.due("no end", Due.endless().letter(0, 0, 0), Due.SPENT);
    }

    private static void element() {
        EvenBodies x = Due.cube();
        Due.promise(10, "(0: the empty WORD)");
        Due.due("element(0, 0)", x.element(0, 0), 0);
        Due.due("of one mirror", new EvenBodies().element(2, 0), 0);
        Due.promise(10, "the first letter the highest digit, each letter's number and 1");
        Due.due("element(0, 1)", x.element(0, 1), 1);
        Due.due("element(0, 3)", x.element(0, 3), 3);
        Due.due("the first letter of 12 is 0", x.letter(0, x.element(0, 12), 0), 0);
        Due.due("the second of 12 is 1", x.letter(0, x.element(0, 12), 1), 1);
        Due.due("the first letter of 21 is 1", x.letter(0, x.element(0, 21), 0), 1);
        Due.due("the longest", x.element(0, 121232123), x.element(0, 321232121));
        Due.due("the most digits", x.element(0, 2122222222), x.element(0, 21));
        Due.due("letters that go out again", x.element(0, 1111111111), 0);
        Due.due("of four mirrors", Due.row(1, 3, 3, 3).element(0, 4), 4);
        Due.due("of one mirror", new EvenBodies().element(2, 111), 1);
    }

    private static void digitThatIsNone() {
        EvenBodies x = Due.cube();
        Due.promise(10, "BAD: a digit that is none");
        int[] wrong = {4, 5, 9, 10, 14, 20, 41, 101, 110, 123401, 1000000000, 2111111110, -1, -12, Due.LOW, Due.HIGH};
        for (int word : wrong) {
            Due.due("element(0, " + word + ")", x.element(0, word), Due.BAD);
        }
        Due.due("one mirror, 2", x.element(1, 2), Due.BAD);
        Due.due("four mirrors, 5", Due.row(1, 3, 3, 3).element(0, 5), Due.BAD);
        Due.due("no body", x.element(4, 0), Due.BAD);
        Due.due("no body", x.element(-1, 0), Due.BAD);
        Due.promise(10, "SPENT.");
        Due.due("no end", Due.endless().element(0, 0), Due.SPENT);
        Due.due("no end", Due.endless().element(0, 123), Due.SPENT);
        Due.due("BAD comes first", Due.endless().element(0, 4), Due.BAD);
    }

    private static void product() {
        EvenBodies x = Due.cube();
        Due.promise(11, "The product of two.");
        Due.due("0 with 0", x.product(0, 0, 0), 0);
        Due.due("0 with the last", x.product(0, 0, LAST), LAST);
        Due.due("the last with 0", x.product(0, LAST, 0), LAST);
        Due.due("the last with itself", x.product(0, LAST, LAST), 0);
        Due.due("1 then 2", x.product(0, 1, 2), x.element(0, 12));
        Due.due("2 then 1", x.product(0, 2, 1), x.element(0, 21));
        Due.promise(11, "BAD, SPENT.");
        int[] wrong = {LAST + 1, -1, Due.LOW, Due.HIGH};
        for (int g : wrong) {
            Due.due("product(0, " + g + ", 0)", x.product(0, g, 0), Due.BAD);
            Due.due("product(0, 0, " + g + ")", x.product(0, 0, g), Due.BAD);
        }
        Due.due("no body", x.product(4, 0, 0), Due.BAD);
        Due.due("no end", Due.endless().product(0, 0, 0), Due.SPENT);
    }

    private static void inverse() {
        EvenBodies x = Due.cube();
        Due.promise(12, "The ELEMENT with which one makes 0.");
        for (int g = 0; g <= LAST; g++) {
            Due.due("with that of " + g, x.product(0, g, x.inverse(0, g)), 0);
        }
        Due.due("of 0", x.inverse(0, 0), 0);
        Due.due("of the last", x.inverse(0, LAST), LAST);
        Due.promise(12, "BAD, SPENT.");
        int[] got = {x.inverse(0, LAST + 1), x.inverse(0, -1), x.inverse(0, Due.LOW), x.inverse(0, Due.HIGH),
            x.inverse(4, 0), x.inverse(-1, 0)};
        dueNoElement("inverse", got.length, got);
        Due.due("no end", Due.endless().inverse(0, 0), Due.SPENT);
    }

    private static void turns() {
        EvenBodies x = Due.cube();
        Due.promise(13, "How often an ELEMENT by itself makes 0 (1 on).");
        Due.due("of 0", x.turns(0, 0), 1);
        Due.due("of a mirror", x.turns(0, 1), 2);
        Due.due("of the last", x.turns(0, LAST), 2);
        Due.due("of 12", x.turns(0, x.element(0, 12)), 4);
        Due.due("of 123", x.turns(0, x.element(0, 123)), 6);
        EvenBodies most = Due.row(1, 5, 2, 6);
        Due.due("the most: 5 and 6 at once", most.turns(0, most.element(0, 1234)), 30);
        Due.due("all the elements but half", Due.row(1, 6).turns(0, 3), 6);
        Due.due("all the elements", new EvenBodies().turns(0, 1), 2);
        Due.promise(13, "BAD, SPENT.");
        int[] got = {x.turns(0, LAST + 1), x.turns(0, -1), x.turns(0, Due.LOW), x.turns(0, Due.HIGH), x.turns(4, 0),
            x.turns(-1, 0)};
        dueNoElement("turns", got.length, got);
        Due.due("no end", Due.endless().turns(0, 0), Due.SPENT);
    }

    private static void classSize() {
        EvenBodies x = Due.cube();
        Due.promise(14, "(h g h's inverse for all h)");
        Due.due("of 0, alone", x.classSize(0, 0), 1);
        Due.due("of the last, alone", x.classSize(0, LAST), 1);
        Due.due("of 1, unlike the others", x.classSize(0, 1), 3);
        Due.due("of 3, like 2", x.classSize(0, 3), 6);
        Due.due("of 12", x.classSize(0, x.element(0, 12)), 6);
        Due.due("of 23", x.classSize(0, x.element(0, 23)), 8);
        Due.due("of one mirror", new EvenBodies().classSize(0, 1), 1);
        Due.promise(14, "BAD, SPENT.");
        int[] got = {x.classSize(0, LAST + 1), x.classSize(0, -1), x.classSize(0, Due.LOW), x.classSize(0, Due.HIGH),
            x.classSize(4, 0), x.classSize(-1, 0)};
        dueNoElement("classSize", got.length, got);
        Due.due("no end", Due.endless().classSize(0, 0), Due.SPENT);
    }

    private static void ofLength() {
        EvenBodies x = Due.cube();
        Due.promise(15, "How many ELEMENTS have WORDS of a length (0 on).");
        int[] many = {1, 3, 5, 7, 8, 8, 7, 5, 3, 1, 0, 0};
        for (int k = 0; k < many.length; k++) {
            Due.due("ofLength(0, " + k + ")", x.ofLength(0, k), many[k]);
        }
        Due.due("far beyond", x.ofLength(0, Due.HIGH), 0);
        Due.promise(15, "BAD: below 0");
        Due.due("ofLength(0, -1)", x.ofLength(0, -1), Due.BAD);
        Due.due("ofLength(0, lowest)", x.ofLength(0, Due.LOW), Due.BAD);
        Due.due("no body", x.ofLength(4, 0), Due.BAD);
        Due.due("no body", x.ofLength(-1, 0), Due.BAD);
        Due.promise(15, "SPENT.");
        Due.due("no end", Due.endless().ofLength(0, 0), Due.SPENT);
        Due.due("no end, below 0", Due.endless().ofLength(0, -1), Due.BAD);
    }

    private static void mirrors() {
        Due.promise(16, "(g i g's inverse for some i)");
        Due.due("one", new EvenBodies().mirrors(0), 1);
        Due.due("of angles 2, themselves alone", Due.row(1, 2, 2, 2).mirrors(0), 4);
        Due.due("of two classes", Due.cube().mirrors(0), 9);
        Due.due("of one class", Due.row(1, 3, 3).mirrors(0), 6);
        Due.due("of 5 and 6", Due.row(1, 5, 2, 6).mirrors(0), 11);
        Due.promise(16, "BAD, SPENT.");
        Due.due("no body", new EvenBodies().mirrors(4), Due.BAD);
        Due.due("no body", new EvenBodies().mirrors(-1), Due.BAD);
        Due.due("no end", Due.endless().mirrors(0), Due.SPENT);
    }
}
