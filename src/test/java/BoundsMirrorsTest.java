import java.io.IOException;

/** The boundary cases of promises 1 to 6: mirrors. */
public final class BoundsMirrorsTest {
    public static void main(String[] args) throws IOException {
        Due.begin();
        newObject();
        body();
        angle();
        ring();
        order();
        notEachOnce();
        about();
        Due.end();
    }

    private static void newObject() {
        Due.promise(1, "As told.");
        EvenBodies x = new EvenBodies();
        for (int b = 0; b < 4; b++) {
            Due.due("about(b, 0, 0)", x.about(b, 0, 0), 1);
            Due.due("about(b, 1, 0)", x.about(b, 1, 0), 1);
            Due.due("about(b, 2, 0)", x.about(b, 2, 0), 0);
        }
    }

    private static void body() {
        Due.promise(2, "A BODY has r MIRRORS, ANGLES 2, MIRROR 0 RINGED: 1.");
        for (int b = 0; b < 4; b++) {
            for (int r = 4; r >= 1; r--) {
                EvenBodies x = new EvenBodies();
                Due.put(x, b, 14, 3, 4, 5);
                Due.due("body(b, " + r + ")", x.body(b, r), 1);
                dueFresh(x, b, r);
            }
        }
        // Fewer mirrors, then more again: what the outer ones had does not come back.
        EvenBodies x = Due.row(15, 6, 6, 6);
        x.body(0, 1);
        x.body(0, 4);
        dueFresh(x, 0, 4);
        Due.promise(2, "BAD.");
        int[] wrong = {Due.LOW, -1, 0, 5, Due.HIGH};
        for (int r : wrong) {
            Due.due("body(0, " + r + ")", x.body(0, r), Due.BAD);
        }
        Due.due("body(-1, 1)", x.body(-1, 1), Due.BAD);
        Due.due("body(4, 1)", x.body(4, 1), Due.BAD);
        Due.due("about(0, 0, 0)", x.about(0, 0, 0), 4);
    }

    private static void dueFresh(EvenBodies x, int b, int r) {
        Due.due("mirrors of " + r, x.about(b, 0, 0), r);
        Due.due("ringed ones of " + r, x.about(b, 1, 0), 1);
        Due.due("size of " + r, x.size(b), 1 << r);
        for (int i = 0; i < r; i++) {
            for (int j = 0; j < r; j++) {
                if (i != j) {
                    Due.due("angle " + i + " " + j + " of " + r, x.angle(b, i, j, 2), 2);
                }
            }
        }
    }

    private static void angle() {
        Due.promise(3, "An ANGLE: what it was.");
        EvenBodies x = new EvenBodies();
        x.body(0, 4);
        int was = 2;
        int[] row = {6, 2, 3, 3, 5, 4, 2, 6};
        for (int m : row) {
            Due.due("angle(0, 3, 0, " + m + ")", x.angle(0, 3, 0, m), was);
            was = m;
        }
        Due.due("the other way round", x.angle(0, 0, 3, 6), 6);
        Due.due("another one is still 2", x.angle(0, 2, 3, 2), 2);
        Due.promise(3, "BAD: also i like j.");
        for (int i = 0; i < 4; i++) {
            Due.due("angle(0, i, i, 3)", x.angle(0, i, i, 3), Due.BAD);
            Due.due("angle(0, i, i, 2)", x.angle(0, i, i, 2), Due.BAD);
        }
        Due.due("one mirror", x.angle(1, 0, 0, 2), Due.BAD);
        Due.due("no such mirror", x.angle(1, 0, 1, 2), Due.BAD);
        Due.due("no such mirrors, like ones", x.angle(1, 9, 9, 3), Due.BAD);
        int[] noMirror = {Due.LOW, -1, 4, Due.HIGH};
        for (int i : noMirror) {
            Due.due("angle(0, " + i + ", 1, 3)", x.angle(0, i, 1, 3), Due.BAD);
            Due.due("angle(0, 1, " + i + ", 3)", x.angle(0, 1, i, 3), Due.BAD);
        }
        int[] noAngle = {Due.LOW, -3, 0, 1, 7, Due.HIGH};
        for (int m : noAngle) {
            Due.due("angle(0, 0, 1, " + m + ")", x.angle(0, 0, 1, m), Due.BAD);
        }
        Due.due("nothing has changed", x.angle(0, 0, 1, 2), 2);
    }

    private static void ring() {
        Due.promise(4, "RINGED ones: what they were.");
        EvenBodies x = new EvenBodies();
        for (int r = 1; r <= 4; r++) {
            x.body(3, r);
            int was = 1;
            for (int set = (1 << r) - 1; set >= 1; set--) {
                Due.due("ring(3, " + set + ") of " + r, x.ring(3, set), was);
                was = set;
            }
            Due.due("the same again", x.ring(3, 1), 1);
        }
        Due.promise(4, "BAD: also none.");
        for (int r = 1; r <= 4; r++) {
            x.body(3, r);
            Due.due("ring(3, 0) of " + r, x.ring(3, 0), Due.BAD);
            Due.due("one too many of " + r, x.ring(3, 1 << r), Due.BAD);
            Due.due("one of them too many of " + r, x.ring(3, 1 + (1 << r)), Due.BAD);
            Due.due("below 0", x.ring(3, -1), Due.BAD);
            Due.due("lowest", x.ring(3, Due.LOW), Due.BAD);
            Due.due("highest", x.ring(3, Due.HIGH), Due.BAD);
            Due.due("still", x.about(3, 1, 0), 1);
        }
        Due.due("no body", x.ring(4, 1), Due.BAD);
    }

    private static void order() {
        Due.promise(5, "MIRROR i is the one that digit i (from the highest on) of the order tells");
        EvenBodies x = Due.row(4, 5, 3);
        // Mirror 0 is old 1, mirror 1 old 2, mirror 2 old 0.
        Due.due("order(0, 120, 1)", x.order(0, 120, 1), 1);
        Due.due("ringed", x.about(1, 1, 0), 2);
        Due.due("old 1 and 0", x.angle(1, 0, 2, 5), 5);
        Due.due("old 1 and 2", x.angle(1, 0, 1, 3), 3);
        Due.due("old 2 and 0", x.angle(1, 1, 2, 2), 2);
        Due.due("a digit 0 is the highest", x.order(0, 12, 2), 1);
        Due.due("all as it was", x.about(2, 1, 0), 4);
        Due.due("all as it was", x.about(2, 2, 0), 2);
        Due.due("a digit 0 alone, of one mirror", x.order(3, 0, 3), 1);
        Due.due("all four", Due.row(8, 3, 3, 3).order(0, 3210, 1), 1);
        Due.promise(5, "(to may be b)");
        Due.due("order(0, 120, 0)", x.order(0, 120, 0), 1);
        Due.due("ringed", x.about(0, 1, 0), 2);
        Due.due("old 1 and 0", x.angle(0, 0, 2, 5), 5);
        Due.due("old 1 and 2", x.angle(0, 0, 1, 3), 3);
        Due.due("old 2 and 0", x.angle(0, 1, 2, 2), 2);
        Due.promise(5, "BODY to becomes BODY b");
        Due.put(x, 1, 15, 3, 3, 3);
        Due.due("of three mirrors where four were", x.order(0, 12, 1), 1);
        Due.due("mirrors", x.about(1, 0, 0), 3);
        Due.due("its fourth is none", x.about(1, 2, 3), Due.BAD);
        Due.due("b is as it was", x.about(0, 1, 0), 2);
        Due.due("its elements", x.size(1), x.size(0));
        EvenBodies asked = Due.row(1, 5, 3);
        Due.put(asked, 1, 1, 3, 3, 3);
        Due.due("asked for before", asked.size(1), 120);
        Due.due("asked for before", asked.count(1, 0), 5);
        Due.due("asked for before", asked.letter(0, asked.element(0, 2121), 3), 0);
        Due.due("order(0, 210, 1)", asked.order(0, 210, 1), 1);
        Due.due("its corners now", asked.count(1, 0), 20);
        Due.due("order(2, 0, 1)", asked.order(2, 0, 1), 1);
        Due.due("its elements now", asked.size(1), 2);
        Due.due("order(0, 210, 0)", asked.order(0, 210, 0), 1);
        Due.due("0 1 and 1 0 have an angle of 3 now", asked.element(0, 121), asked.element(0, 212));
    }

    private static void notEachOnce() {
        Due.promise(5, "BAD: also not each once.");
        EvenBodies x = Due.row(6, 5, 3);
        int[] wrong = {Due.LOW, -12, -1, 0, 1, 10, 11, 13, 22, 100, 112, 121, 122, 123, 130, 200, 211, 220, 221, 222, 310,
            1012, 1120, 1201, 2102, 3012, 10012, 1000000012, Due.HIGH};
        for (int order : wrong) {
            Due.due("order(0, " + order + ", 1)", x.order(0, order, 1), Due.BAD);
            Due.due("order(0, " + order + ", 0)", x.order(0, order, 0), Due.BAD);
        }
        int[] right = {12, 21, 102, 120, 201, 210};
        for (int order : right) {
            Due.due("order(0, " + order + ", 2)", x.order(0, order, 2), 1);
            Due.due("no body to", x.order(0, order, 4), Due.BAD);
            Due.due("no body to", x.order(0, order, -1), Due.BAD);
        }
        Due.due("one mirror, not 0", x.order(3, 1, 3), Due.BAD);
        Due.due("one mirror, 0 twice is 0 and not BAD", x.order(3, 0, 3), 1);
        x.body(3, 4);
        Due.due("four, 0 first", x.order(3, 123, 3), 1);
        Due.due("four, two 0", x.order(3, 12, 3), Due.BAD);
        Due.due("four, a digit 4", x.order(3, 1234, 3), Due.BAD);
        Due.due("b is as it was", x.about(0, 1, 0), 6);
        Due.due("to is as it was", x.about(1, 0, 0), 1);
    }

    private static void about() {
        Due.promise(6, "BAD: what; i, if it is looked at.");
        EvenBodies x = Due.row(6, 5, 3);
        int[] any = {Due.LOW, -1, 0, 2, 3, 4, Due.HIGH};
        for (int i : any) {
            Due.due("about(0, 0, " + i + ")", x.about(0, 0, i), 3);
            Due.due("about(0, 1, " + i + ")", x.about(0, 1, i), 6);
            Due.due("about(0, -1, " + i + ")", x.about(0, -1, i), Due.BAD);
            Due.due("about(0, 3, " + i + ")", x.about(0, 3, i), Due.BAD);
        }
        int[] noMirror = {Due.LOW, -1, 3, 4, Due.HIGH};
        for (int i : noMirror) {
            Due.due("about(0, 2, " + i + ")", x.about(0, 2, i), Due.BAD);
        }
        Due.due("one mirror: 1 is none", x.about(1, 2, 1), Due.BAD);
        Due.due("what is lowest", x.about(0, Due.LOW, 0), Due.BAD);
        Due.due("what is highest", x.about(0, Due.HIGH, 0), Due.BAD);
        Due.due("no body", x.about(4, 0, 0), Due.BAD);
        Due.promise(6, "2 which are JOINED to MIRROR i (bits)");
        Due.due("to 0", x.about(0, 2, 0), 2);
        Due.due("to 1", x.about(0, 2, 1), 5);
        Due.due("to 2", x.about(0, 2, 2), 2);
        x.angle(0, 0, 2, 3);
        Due.due("an angle of 3 joins", x.about(0, 2, 0), 6);
        x.angle(0, 0, 2, 2);
        Due.due("an angle of 2 does not", x.about(0, 2, 0), 2);
        Due.due("alone", x.about(1, 2, 0), 0);
    }
}
