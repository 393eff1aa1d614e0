import java.io.IOException;

/** The boundary cases that the document names before its promises: its head, and the terms. */
public final class BoundsTermsTest {
    private static final int CALLS = 512;
    private static final int[][] PAIRS = {{0, 1}, {0, 2}, {0, 3}, {1, 2}, {1, 3}, {2, 3}};

    public static void main(String[] args) throws IOException {
        Due.begin();
        manyCalls();
        bodies();
        angles();
        ringed();
        emptyWord();
        leastWords();
        spent();
        joined();
        emptyKind();
        reached();
        still();
        whole();
        ownCorner();
        lying();
        kindsInOrder();
        law();
        ways();
        round();
        roundByOrders();
        alike();
        snubEdges();
        snubPlates();
        dual();
        Due.end();
    }

    // ---- the head

    private static void manyCalls() {
        Due.terms("An object is used for at most 512 calls after it has been made; what later calls answer is free.");
        EvenBodies x = new EvenBodies();
        x.body(0, 3);
        x.angle(0, 0, 1, 4);
        x.angle(0, 1, 2, 3);
        Due.due("size(0), call 4", x.size(0), 48);
        int[] corners = {8, 12, 24, 6, 24, 24, 48};
        int calls = 4;
        while (calls < CALLS) {
            int set = 1 + calls / 2 % corners.length;
            x.ring(0, set);
            Due.due("count(0, 0), call " + (calls + 2), x.count(0, 0), corners[set - 1]);
            calls += 2;
        }
        Due.due("calls till now", calls, CALLS);
        // Whatever they answer: they must end, and not throw.
        int later = 0;
        while (later < CALLS) {
            x.angle(0, later % 3, (later + 1) % 3, 2 + later % 5);
            x.digest();
            x.round(0, 0);
            x.far(0, 0, later);
            x.snubFar(0, later, 0);
            later++;
        }
        Due.due("later calls end", later, CALLS);
    }

    // ---- terms 1

    private static void bodies() {
        Due.terms("BODIES 0 .. 3 have r MIRRORS (1 .. 4; 1 at first)");
        EvenBodies x = new EvenBodies();
        int[] noBody = {Due.LOW, -1, 4, Due.HIGH};
        for (int b = 0; b < 4; b++) {
            Due.due("mirrors at first", x.about(b, 0, 0), 1);
            Due.due("no second one", x.about(b, 2, 1), Due.BAD);
        }
        for (int b : noBody) {
            Due.due("about(" + b + ", 0, 0)", x.about(b, 0, 0), Due.BAD);
            Due.due("body(" + b + ", 1)", x.body(b, 1), Due.BAD);
        }
        for (int b = 0; b < 4; b++) {
            for (int r = 0; r <= 5; r++) {
                boolean isRight = r >= 1 && r <= 4;
                Due.due("body(b, " + r + ")", x.body(b, r), isRight ? 1 : Due.BAD);
                Due.due("mirrors", x.about(b, 0, 0), isRight ? r : r == 0 ? 1 : 4);
            }
            for (int other = b + 1; other < 4; other++) {
                Due.due("another body", x.about(other, 0, 0), 1);
            }
        }
    }

    private static void angles() {
        Due.terms("with ANGLES m(i, j) = m(j, i) of 2 .. 6 for i not j (2 at first)");
        for (int[] pair : PAIRS) {
            EvenBodies x = new EvenBodies();
            x.body(3, 4);
            Due.due("at first", x.angle(3, pair[0], pair[1], 2), 2);
            Due.due("1 is none", x.angle(3, pair[0], pair[1], 1), Due.BAD);
            Due.due("7 is none", x.angle(3, pair[1], pair[0], 7), Due.BAD);
            int was = 2;
            for (int m = 2; m <= 6; m++) {
                Due.due("m(i, j)", x.angle(3, pair[0], pair[1], m), was);
                Due.due("m(j, i)", x.angle(3, pair[1], pair[0], m), m);
                was = m;
            }
            for (int[] other : PAIRS) {
                Due.due("the others are as at first", x.angle(3, other[0], other[1], 2), other == pair ? 6 : 2);
            }
        }
    }

    private static void ringed() {
        Due.terms("RINGED ones (a set that is not empty, as bits; MIRROR 0 at first)");
        EvenBodies x = new EvenBodies();
        for (int b = 0; b < 4; b++) {
            Due.due("at first", x.about(b, 1, 0), 1);
        }
        for (int r = 1; r <= 4; r++) {
            x.body(2, r);
            Due.due("of " + r, x.about(2, 1, 0), 1);
            Due.due("the empty set of " + r, x.ring(2, 0), Due.BAD);
            Due.due("the last alone of " + r, x.ring(2, 1 << r - 1), 1);
            Due.due("one that is none of " + r, x.ring(2, 1 << r), Due.BAD);
            Due.due("the last alone of " + r, x.about(2, 1, 0), 1 << r - 1);
        }
    }

    private static void emptyWord() {
        Due.terms("0 is the empty one");
        int[][] rows = {{}, {2}, {6}, {4, 3}, {2, 2, 2}, {3, 3, 4}};
        for (int[] row : rows) {
            EvenBodies x = Due.row(1, row);
            Due.due("its length", x.length(0, 0), 0);
            Due.due("its first letter", x.letter(0, 0, 0), Due.NONE);
            Due.due("of no digits", x.element(0, 0), 0);
            Due.due("no other one is as short", x.ofLength(0, 0), 1);
            Due.due("of i i", x.element(0, 11), 0);
            Due.due("the first letters are 1 .. r", x.ofLength(0, 1), row.length + 1);
            for (int i = 0; i <= row.length; i++) {
                Due.due("letter " + i, x.element(0, i + 1), i + 1);
            }
        }
    }

    private static int compareWords(EvenBodies x, int g, int h) {
        if (x.length(0, g) != x.length(0, h)) {
            return Integer.compare(x.length(0, g), x.length(0, h));
        }
        for (int i = 0; i < x.length(0, g); i++) {
            if (x.letter(0, g, i) != x.letter(0, h, i)) {
                return Integer.compare(x.letter(0, g, i), x.letter(0, h, i));
            }
        }
        return 0;
    }

    private static void leastWords() {
        Due.terms("each told by its least WORD (the shortest, of like ones the first by numbers)");
        EvenBodies x = Due.row(1, 3, 4);
        int alternating = x.element(0, 212);
        Due.due("0 1 0 and 1 0 1 are the same", x.element(0, 121), alternating);
        Due.due("told as 0 1 0", x.letter(0, alternating, 0), 0);
        Due.due("1 2 1 2 and 2 1 2 1 are the same", x.element(0, 2323), x.element(0, 3232));
        Due.due("told as 1 2 1 2", x.letter(0, x.element(0, 3232), 0), 1);
        Due.due("1 2 1 and 2 1 2 are not", x.element(0, 232) == x.element(0, 323) ? 1 : 0, 0);
        Due.due("0 2 and 2 0 are the same", x.element(0, 13), x.element(0, 31));
        Due.due("told as 0 2", x.letter(0, x.element(0, 31), 0), 0);
        Due.due("0 1 0 1 and 1 0 are the same", x.element(0, 1212), x.element(0, 21));
        Due.due("told as 1 0, the shortest", x.length(0, x.element(0, 1212)), 2);
        Due.terms("(shorter ones first, then by numbers; 0 is the empty one)");
        for (int g = 1; g < 48; g++) {
            EvenBodies y = Due.row(1, 3, 4);
            Due.due("word " + (g - 1) + " before word " + g, compareWords(y, g - 1, g), -1);
        }
    }

    private static void spent() {
        Due.terms("SPENT, if there are above 500, or no end of them.");
        int[][] whole = {{3, 3, 4, 384}, {5, 3, 2, 240}, {6, 2, 6, 144}, {3, 3, 3, 120}};
        for (int[] row : whole) {
            Due.due("size " + row[3], Due.row(1, row[0], row[1], row[2]).size(0), row[3]);
        }
        Due.due("1152, above 500", Due.row(1, 3, 4, 3).size(0), Due.SPENT);
        Due.due("14400, above 500", Due.row(1, 3, 3, 5).size(0), Due.SPENT);
        Due.due("no end, slowly growing", Due.row(1, 4, 4).size(0), Due.SPENT);
        Due.due("no end, slowly growing", Due.row(1, 3, 6).size(0), Due.SPENT);
        Due.due("no end, fast growing", Due.row(1, 6, 6, 6).size(0), Due.SPENT);
        EvenBodies ring = Due.row(1, 3, 3);
        Due.due("whole before", ring.size(0), 24);
        ring.angle(0, 0, 2, 3);
        Due.due("no end, in a ring", ring.size(0), Due.SPENT);
        ring.angle(0, 0, 2, 2);
        Due.due("whole again", ring.size(0), 24);
        EvenBodies four = Due.row(1, 3, 3, 2);
        four.angle(0, 1, 3, 3);
        Due.due("one in the midst of three", four.size(0), 192);
        four.angle(0, 1, 3, 4);
        Due.due("no end", four.size(0), Due.SPENT);
        Due.due("another body is not spent by it", four.size(1), 2);
    }

    private static void joined() {
        Due.terms("JOINED are two MIRRORS with an ANGLE above 2.");
        EvenBodies x = new EvenBodies();
        x.body(0, 4);
        for (int m = 6; m >= 2; m--) {
            x.angle(0, 1, 3, m);
            Due.due("1 by an angle of " + m, x.about(0, 2, 1), m > 2 ? 8 : 0);
            Due.due("3 by an angle of " + m, x.about(0, 2, 3), m > 2 ? 2 : 0);
            Due.due("0 to none", x.about(0, 2, 0), 0);
        }
    }

    // ---- terms 2

    private static void emptyKind() {
        Due.terms("(The empty set is one.)");
        for (int r = 1; r <= 4; r++) {
            for (int set = 1; set < 1 << r; set++) {
                EvenBodies x = new EvenBodies();
                x.body(1, r);
                x.ring(1, set);
                Due.due("kinds(1, 0)", x.kinds(1, 0), 1);
                Due.due("kind(1, 0, 0)", x.kind(1, 0, 0), 0);
                Due.due("kind(1, 0, 1)", x.kind(1, 0, 1), Due.NONE);
                Due.due("parts(1, 0)", x.parts(1, 0), 1 << Integer.bitCount(set));
            }
        }
    }

    private static void dueKinds(EvenBodies x, int width, int... kinds) {
        Due.due("kinds of width " + width, x.kinds(0, width), kinds.length);
        for (int i = 0; i < kinds.length; i++) {
            Due.due("kind " + i + " of width " + width, x.kind(0, width, i), kinds[i]);
        }
    }

    private static void reached() {
        Due.terms("one that is RINGED (itself perhaps) is reached by steps within S between JOINED ones");
        EvenBodies x = Due.row(1, 3, 3, 3);
        dueKinds(x, 1, 1);
        dueKinds(x, 2, 3);
        dueKinds(x, 3, 7);
        dueKinds(x, 4, 15);
        x.ring(0, 9);
        dueKinds(x, 1, 1, 8);
        dueKinds(x, 2, 3, 9, 12);
        dueKinds(x, 3, 7, 11, 13, 14);
        dueKinds(x, 4, 15);
        x.angle(0, 1, 2, 2);
        x.ring(0, 1);
        dueKinds(x, 2, 3);
        dueKinds(x, 3);
        dueKinds(x, 4);
    }

    private static void still() {
        Due.terms("STILL are MIRRORS that are not in S, not RINGED, not JOINED to one of S.");
        EvenBodies x = Due.row(3, 4, 3);
        Due.due("edges along which 2 is still", x.parts(0, 1), 12);
        Due.due("edges to which 2 is joined", x.parts(0, 2), 24);
        x.ring(0, 5);
        Due.due("no mirror is still: 2 is ringed", x.parts(0, 1), 24);
        Due.due("no mirror is still: 0 is ringed", x.parts(0, 4), 24);
        Due.due("corners: 1 is still, as nothing is in S", x.parts(0, 0), 24);
    }

    private static void whole() {
        Due.terms("PARTS of r (1 alone) THE WHOLE");
        int[][] rows = {{}, {2}, {5}, {2, 2}, {4, 3}, {3, 2}, {3, 3, 3}, {4, 2, 3}};
        for (int[] row : rows) {
            int all = (2 << row.length) - 1;
            for (int set = 1; set <= all; set++) {
                EvenBodies x = Due.row(set, row);
                int kinds = x.kinds(0, row.length + 1);
                Due.due("how many", x.count(0, row.length + 1), kinds);
                Due.due("how many parts", x.parts(0, all), kinds == 1 ? 1 : Due.BAD);
                Due.due("all corners", x.corners(0, all, 0), kinds == 1 ? x.count(0, 0) : Due.BAD);
                Due.due("no second one", x.corners(0, all, 1), Due.BAD);
            }
        }
        Due.due("not joined, not ringed: none", Due.row(1, 4, 2).count(0, 3), 0);
        Due.due("not joined, ringed: one", Due.row(5, 4, 2).count(0, 3), 1);
    }

    private static void ownCorner() {
        Due.terms("A PART's CORNERS are those that LIE IN it (its own one, if it is a CORNER).");
        int[] rings = {1, 2, 5, 7};
        for (int set : rings) {
            EvenBodies x = Due.row(set, 4, 3);
            int corners = x.count(0, 0);
            for (int corner = 0; corner < corners; corner++) {
                Due.due("how many", x.corners(0, 0, corner), 1);
                Due.due("its own", x.cornerOf(0, 0, corner, 0), corner);
                Due.due("no other", x.cornerOf(0, 0, corner, 1), Due.NONE);
                Due.due("but it does not lie in itself", x.liesIn(0, 0, corner, 0, corner), 0);
            }
        }
    }

    private static void lying() {
        Due.terms("if its KIND is within the other one's, not the same, and they have an ELEMENT in common");
        EvenBodies x = Due.row(7, 4, 3);
        Due.due("within, in common", x.liesIn(0, 1, 0, 3, 0), 1);
        Due.due("within, nothing in common", x.liesIn(0, 1, 23, 3, 0), 0);
        Due.due("the same, in common", x.liesIn(0, 3, 0, 3, 0), 0);
        Due.due("not within, in common", x.liesIn(0, 1, 0, 6, 0), 0);
        Due.due("as wide, in common", x.liesIn(0, 3, 0, 6, 0), 0);
        Due.due("the other way round", x.liesIn(0, 3, 0, 1, 0), 0);
    }

    private static void kindsInOrder() {
        Due.terms("KINDS are in order by WIDTH, then as numbers.");
        EvenBodies x = Due.row(15, 3, 3, 3);
        dueKinds(x, 1, 1, 2, 4, 8);
        dueKinds(x, 2, 3, 5, 6, 9, 10, 12);
        dueKinds(x, 3, 7, 11, 13, 14);
    }

    private static void law() {
        Due.terms("THE LAW: COUNTS of WIDTH 0 .. r - 1 added and taken off by turns (first added).");
        int[][] rows = {{}, {2}, {5}, {4, 3}, {6, 2}, {3, 3, 4}, {5, 2, 6}};
        for (int[] row : rows) {
            for (int set = 1; set < 2 << row.length; set++) {
                EvenBodies x = Due.row(set, row);
                int sum = 0;
                for (int width = 0; width <= row.length; width++) {
                    sum += width % 2 == 0 ? x.count(0, width) : -x.count(0, width);
                }
                Due.due("without THE WHOLE", x.law(0), sum);
            }
        }
    }

    // ---- terms 3

    private static void ways() {
        Due.terms("LAYERS of a CORNER: how many CORNERS are so far from it.");
        EvenBodies x = Due.row(4, 3, 5);
        int[] layers = {1, 3, 6, 6, 3, 1, 0};
        for (int far = 0; far < layers.length; far++) {
            int many = 0;
            for (int corner = 0; corner < 20; corner++) {
                many += x.far(0, 0, corner) == far ? 1 : 0;
            }
            Due.due("so far", many, layers[far]);
            Due.due("layer(0, " + far + ")", x.layer(0, far), layers[far]);
        }
        Due.terms("whether CORNERS can be in two colours so that no EDGE joins like ones");
        Due.due("a ring of five", Due.row(1, 5).coloured(0), 0);
        Due.due("a ring of ten", Due.row(3, 5).coloured(0), 1);
    }

    private static void dueRow(EvenBodies x, int... sizes) {
        Due.due("how many", x.round(0, Due.NONE), sizes.length);
        for (int i = 0; i < sizes.length; i++) {
            Due.due("size " + i, x.round(0, i), sizes[i]);
        }
        Due.due("no more", x.round(0, sizes.length), Due.NONE);
    }

    private static void round() {
        Due.terms("each having an EDGE with the next one, and the last one with the first");
        // By turns, not 3 3 4 4 and 3 3 5 5.
        dueRow(Due.row(2, 4, 3), 3, 4, 3, 4);
        dueRow(Due.row(2, 3, 5), 3, 5, 3, 5);
        // The 3 and the 5 stand opposite each other: not 3 4 4 5.
        dueRow(Due.row(5, 3, 5), 3, 4, 5, 4);
        dueRow(Due.row(5, 5, 3), 3, 4, 5, 4);
        dueRow(Due.row(5, 3, 3), 3, 4, 3, 4);
        dueRow(Due.row(5, 4, 3), 3, 4, 4, 4);
    }

    private static void roundByOrders() {
        Due.terms("told from where, and in the direction, by which the row of sizes is least");
        int[] orders = {12, 21, 102, 120, 201, 210};
        for (int order : orders) {
            int[][] due = {{7, 4, 3, 4, 6, 8}, {7, 3, 5, 4, 6, 10}, {7, 3, 3, 4, 6, 6}, {3, 4, 3, 3, 8, 8},
                {6, 4, 3, 4, 6, 6}, {3, 3, 5, 5, 6, 6}, {6, 3, 5, 3, 10, 10}, {5, 6, 2, 4, 4, 6}, {5, 3, 2, 3, 4, 4},
                {7, 5, 2, 4, 4, 10}, {5, 3, 5, 3, 4, 5, 4}, {5, 4, 3, 3, 4, 4, 4}, {2, 5, 3, 3, 5, 3, 5}};
            for (int[] row : due) {
                EvenBodies x = Due.row(row[0], row[1], row[2]);
                x.order(0, order, 0);
                dueRow(x, java.util.Arrays.copyOfRange(row, 3, row.length));
            }
        }
    }

    private static void alike() {
        Due.terms("if CORNERS can be put one for one so that EDGES are EDGES, and CORNERS of PLATES are those of PLATES");
        int[] orders = {12, 21, 102, 120, 201, 210};
        for (int set = 1; set < 8; set++) {
            EvenBodies x = Due.row(set, 3, 5);
            for (int order : orders) {
                x.order(0, order, 1);
                Due.due("in order " + order, x.alike(0, 1), 1);
            }
        }
        EvenBodies x = Due.row(3, 3, 2);
        Due.put(x, 1, 1, 6, 2);
        Due.due("as many corners in one plate", x.alike(0, 1), 1);
        Due.put(x, 1, 5, 3, 2);
        Due.due("six corners, but a prism of three", x.alike(0, 1), 0);
        Due.put(x, 0, 1, 3, 4);
        Due.due("six corners, but the octahedron", x.alike(0, 1), 0);
        Due.put(x, 0, 1, 2, 2);
        Due.put(x, 1, 4, 6, 2);
        Due.due("two lines", x.alike(0, 1), 1);
        Due.put(x, 0, 3, 2, 2);
        Due.put(x, 1, 2, 4, 2);
        Due.due("two squares", x.alike(0, 1), 1);
    }

    // ---- terms 4

    private static void snubEdges() {
        Due.terms("EDGES join g and g i j for all i not j (each once)");
        // Where i j is j i there is one edge for both; else there are two at g, and each has two ends.
        int[][] rows = {{2, 2, 3}, {3, 2, 4}, {4, 2, 4}, {6, 2, 4}, {3, 3, 5}, {4, 3, 5}, {3, 5, 5}};
        for (int[] row : rows) {
            EvenBodies x = Due.row(1, row[0], row[1]);
            int corners = x.size(0) / 2;
            Due.due("corners", x.snub(0, 0), corners);
            Due.due("edges", x.snub(0, 1), corners * row[2] / 2);
            int near = 0;
            for (int corner = 0; corner < corners; corner++) {
                Due.due("edges at " + corner, x.snubDegree(0, corner), row[2]);
                near += x.snubFar(0, 0, corner) == 1 ? 1 : 0;
            }
            Due.due("corners beside corner 0", near, row[2]);
        }
    }

    private static void snubPlates() {
        Due.terms("all rows g, g i j, g i j i j, .. till it is g (each once)");
        Due.due("two of six", Due.row(1, 6, 2).snubFaces(0, 6), 2);
        Due.due("two of five", Due.row(1, 5, 2).snubFaces(0, 5), 2);
        Due.due("six of four", Due.row(1, 4, 3).snubFaces(0, 4), 6);
        Due.due("twelve of five", Due.row(1, 3, 5).snubFaces(0, 5), 12);
        Due.terms("for each pair i, j with an ANGLE above 2");
        Due.due("no plates of two", Due.row(1, 2, 2).snubFaces(0, 2), 0);
        Due.due("no plates of two", Due.row(1, 6, 2).snubFaces(0, 2), 0);
        Due.due("no plates of two", Due.row(1, 3, 5).snubFaces(0, 2), 0);
        Due.terms("for each ELEMENT h that is not a HALF one the three h 0, h 1, h 2");
        Due.due("these alone", Due.row(1, 2, 2).snubFaces(0, 3), 4);
        Due.due("these alone", Due.row(1, 6, 2).snubFaces(0, 3), 12);
        Due.due("24 and 8", Due.row(1, 4, 3).snubFaces(0, 3), 32);
        Due.due("12, 4 and 4", Due.row(1, 3, 3).snubFaces(0, 3), 20);
    }

    private static void dual() {
        Due.terms("two of its corners are joined if their PLATES have an EDGE in common (that LIES IN both)");
        // Of the octahedron plates that have a corner alone in common are not joined.
        Due.due("joins", Due.octahedron().dual(0, 1), 12);
        Due.due("each has three", Due.octahedron().dualDegree(0, 3), 8);
        Due.due("no edge in common: one plate alone", Due.row(1, 6, 2).dual(0, 1), 0);
        Due.due("two edges at a corner of three", Due.row(1, 3, 3).dual(0, 1), 6);
    }
}
