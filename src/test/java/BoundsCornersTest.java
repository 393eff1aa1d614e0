import java.io.IOException;

/** The boundary cases of promises 28 to 36: corners, ways. The cube has 48 elements and 8 corners. */
public final class BoundsCornersTest {
    private static final int[] NO_CORNER = {Due.LOW, -1, 8, 48, 500, Due.HIGH};

    public static void main(String[] args) throws IOException {
        Due.begin();
        moves();
        degree();
        far();
        layer();
        ways();
        waysRefused();
        coloured();
        round();
        roundRefused();
        alike();
        unlike();
        Due.end();
    }

    private static void moves() {
        Due.promise(28, "that of g h, h being one of its");
        for (int corner = 0; corner < 8; corner++) {
            EvenBodies y = Due.cube();
            Due.due("element 0 moves nothing", y.moves(0, 0, corner), corner);
            Due.due("there and back", y.moves(0, 47, y.moves(0, 47, corner)), corner);
            int h = y.least(0, 0, corner);
            for (int g = 0; g < 48; g++) {
                Due.due("of its least", y.moves(0, g, corner), y.partOf(0, 0, y.product(0, g, h)));
            }
        }
        EvenBodies x = Due.cube();
        Due.due("the last moves corner 0 to the last", x.moves(0, 47, 0), 7);
        Due.promise(28, "BAD, SPENT.");
        for (int corner : NO_CORNER) {
            Due.due("moves(0, 0, " + corner + ")", x.moves(0, 0, corner), Due.BAD);
        }
        int[] noElement = {Due.LOW, -1, 48, 500, Due.HIGH};
        for (int g : noElement) {
            Due.due("moves(0, " + g + ", 0)", x.moves(0, g, 0), Due.BAD);
        }
        Due.due("no body", x.moves(4, 0, 0), Due.BAD);
        Due.due("no end", Due.endless().moves(0, 0, 0), Due.SPENT);
        Due.due("no end, below 0", Due.endless().moves(0, 0, -1), Due.BAD);
        Due.due("no end, below 0", Due.endless().moves(0, -1, 0), Due.BAD);
    }

    private static void degree() {
        EvenBodies x = Due.cube();
        Due.promise(29, "How many CORNERS are joined to a CORNER by an EDGE.");
        for (int corner = 0; corner < 8; corner++) {
            Due.due("degree(0, " + corner + ")", x.degree(0, corner), 3);
        }
        Due.due("the fewest", new EvenBodies().degree(0, 0), 1);
        Due.due("the most", Due.row(2, 3, 3, 4).degree(0, 23), 8);
        Due.promise(29, "BAD, SPENT.");
        for (int corner : NO_CORNER) {
            Due.due("degree(0, " + corner + ")", x.degree(0, corner), Due.BAD);
        }
        Due.due("no body", x.degree(4, 0), Due.BAD);
        Due.due("no end", Due.endless().degree(0, 0), Due.SPENT);
    }

    private static void far() {
        EvenBodies x = Due.cube();
        Due.promise(30, "HOW FAR.");
        for (int corner = 0; corner < 8; corner++) {
            Due.due("to itself", x.far(0, corner, corner), 0);
            Due.due("and back", x.far(0, corner, 7), x.far(0, 7, corner));
        }
        Due.due("to the last", x.far(0, 0, 7), 3);
        Due.promise(30, "NONE: there is no WAY (there always is).");
        int[][] rows = {{2, 2, 2}, {5, 2, 6}, {3, 3, 3}, {3, 2, 4}};
        for (int[] row : rows) {
            for (int set = 1; set < 16; set++) {
                EvenBodies y = Due.row(set, row);
                int corners = y.count(0, 0);
                for (int corner = 0; corner < corners && corner < 500; corner++) {
                    Due.due("there is a way", y.far(0, 0, corner) >= 0 ? 1 : 0, 1);
                }
            }
        }
        Due.promise(30, "BAD, SPENT.");
        for (int corner : NO_CORNER) {
            Due.due("far(0, " + corner + ", 0)", x.far(0, corner, 0), Due.BAD);
            Due.due("far(0, 0, " + corner + ")", x.far(0, 0, corner), Due.BAD);
            Due.due("both", x.far(0, corner, corner), Due.BAD);
        }
        Due.due("no body", x.far(4, 0, 0), Due.BAD);
        Due.due("no end", Due.endless().far(0, 0, 0), Due.SPENT);
    }

    private static void layer() {
        EvenBodies x = Due.cube();
        Due.promise(31, "How many CORNERS are in a LAYER (0 on) of CORNER 0.");
        int[] layers = {1, 3, 3, 1, 0, 0};
        for (int far = 0; far < layers.length; far++) {
            Due.due("layer(0, " + far + ")", x.layer(0, far), layers[far]);
        }
        Due.due("far beyond", x.layer(0, Due.HIGH), 0);
        Due.due("a line", new EvenBodies().layer(0, 1), 1);
        Due.due("a line", new EvenBodies().layer(0, 2), 0);
        x.ring(0, 4);
        Due.due("of other ringed ones", x.layer(0, 1), 4);
        x.ring(0, 1);
        Due.due("of the first ones again", x.layer(0, 1), 3);
        Due.promise(31, "BAD: below 0");
        Due.due("layer(0, -1)", x.layer(0, -1), Due.BAD);
        Due.due("layer(0, lowest)", x.layer(0, Due.LOW), Due.BAD);
        Due.due("no body", x.layer(4, 0), Due.BAD);
        Due.due("no body", x.layer(-1, 0), Due.BAD);
        Due.promise(31, "SPENT.");
        Due.due("no end", Due.endless().layer(0, 0), Due.SPENT);
        Due.due("no end, below 0", Due.endless().layer(0, -1), Due.BAD);
    }

    private static void ways() {
        EvenBodies x = Due.cube();
        Due.promise(32, "How many WAYS of n EDGES (0 .. 12)");
        for (int corner = 0; corner < 8; corner++) {
            Due.due("of no edge, from 3", x.ways(0, 3, corner, 0), corner == 3 ? 1 : 0);
            Due.due("of one edge, from 3", x.ways(0, 3, corner, 1), x.far(0, 3, corner) == 1 ? 1 : 0);
        }
        // Of the cube (3^n + 3) / 4 ways of an even n lead back.
        Due.due("of twelve", x.ways(0, 0, 0, 12), 132861);
        Due.due("of eleven to the last", x.ways(0, 0, 7, 11), (177147 - 3) / 4);
        Due.promise(32, "`long ways(int b, int corner, int other, int n)`");
        // Of the 24 cells' body: (8^12 + 6 * 4^12 + 8 * 2^12) / 24, which no int holds.
        Due.due("above an int", Due.row(2, 3, 3, 4).ways(0, 5, 5, 12), 2867507200L);
        Due.promise(32, "(an EDGE may be gone again)");
        Due.due("there and back on each", x.ways(0, 0, 0, 2), 3);
        Due.due("on one edge alone", new EvenBodies().ways(0, 0, 0, 12), 1);
        Due.due("on one edge alone", new EvenBodies().ways(0, 0, 1, 11), 1);
        Due.due("on one edge alone", new EvenBodies().ways(0, 0, 1, 12), 0);
    }

    private static void waysRefused() {
        EvenBodies x = Due.cube();
        Due.promise(32, "BAD: -2");
        int[] noMany = {Due.LOW, -1, 13, Due.HIGH};
        for (int n : noMany) {
            Due.due("ways(0, 0, 0, " + n + ")", x.ways(0, 0, 0, n), -2L);
        }
        for (int corner : NO_CORNER) {
            Due.due("ways(0, " + corner + ", 0, 0)", x.ways(0, corner, 0, 0), -2L);
            Due.due("ways(0, 0, " + corner + ", 12)", x.ways(0, 0, corner, 12), -2L);
        }
        Due.due("no body", x.ways(4, 0, 0, 0), -2L);
        Due.due("no body", x.ways(-1, 0, 0, 0), -2L);
        Due.promise(32, "SPENT: -5.");
        Due.due("no end", Due.endless().ways(0, 0, 0, 0), -5L);
        Due.due("no end, of thirteen", Due.endless().ways(0, 0, 0, 13), -2L);
        Due.due("no end, below 0", Due.endless().ways(0, -1, 0, 0), -2L);
    }

    private static void coloured() {
        Due.promise(33, "COLOURED: 1, 0.");
        Due.due("one edge alone", new EvenBodies().coloured(0), 1);
        Due.due("three in a ring", Due.row(1, 3).coloured(0), 0);
        Due.due("four in a ring", Due.row(1, 4).coloured(0), 1);
        Due.due("five in a ring", Due.row(1, 5).coloured(0), 0);
        Due.due("six in a ring", Due.row(3, 3).coloured(0), 1);
        Due.due("the cube", Due.cube().coloured(0), 1);
        Due.due("the octahedron", Due.octahedron().coloured(0), 0);
        Due.due("a prism of five", Due.row(5, 5, 2).coloured(0), 0);
        Due.due("all ringed", Due.row(15, 3, 3, 3).coloured(0), 1);
        EvenBodies x = Due.cube();
        for (int set = 1; set < 8; set++) {
            x.ring(0, set);
            Due.due("of 4 3, ringed " + set, x.coloured(0), set == 1 || set == 6 || set == 7 ? 1 : 0);
        }
        Due.promise(33, "BAD, SPENT.");
        Due.due("no body", new EvenBodies().coloured(4), Due.BAD);
        Due.due("no body", new EvenBodies().coloured(-1), Due.BAD);
        Due.due("no end", Due.endless().coloured(0), Due.SPENT);
    }

    private static void dueRow(EvenBodies x, int b, int... sizes) {
        Due.due("how many", x.round(b, Due.NONE), sizes.length);
        for (int i = 0; i < sizes.length; i++) {
            Due.due("size " + i, x.round(b, i), sizes[i]);
        }
        Due.due("one too many", x.round(b, sizes.length), Due.NONE);
        Due.due("far beyond", x.round(b, Due.HIGH), Due.NONE);
    }

    private static void round() {
        Due.promise(34, "how many sizes (i = NONE), the i-th. NONE: not so many.");
        dueRow(Due.row(4, 5, 2), 0);
        dueRow(Due.row(1, 5, 2), 0, 5);
        dueRow(Due.cube(), 0, 4, 4, 4);
        dueRow(Due.octahedron(), 0, 3, 3, 3, 3);
        dueRow(Due.row(1, 3, 5), 0, 3, 3, 3, 3, 3);
        dueRow(Due.row(5, 6, 2), 0, 4, 4, 6);
        dueRow(Due.row(7, 6, 2), 0, 4, 4, 12);
    }

    private static void roundRefused() {
        Due.promise(34, "BAD; SPENT;");
        EvenBodies x = Due.cube();
        Due.due("below NONE", x.round(0, -2), Due.BAD);
        Due.due("lowest", x.round(0, Due.LOW), Due.BAD);
        Due.due("no body", x.round(4, 0), Due.BAD);
        Due.due("no body", x.round(-1, Due.NONE), Due.BAD);
        Due.due("no end", Due.endless().round(0, 0), Due.SPENT);
        Due.due("no end, how many", Due.endless().round(0, Due.NONE), Due.SPENT);
        Due.due("no end, below NONE", Due.endless().round(0, -2), Due.BAD);
        Due.promise(34, "NO: not three MIRRORS.");
        EvenBodies[] others = {new EvenBodies(), Due.row(3, 5), Due.row(1, 3, 3, 3)};
        for (EvenBodies y : others) {
            Due.due("how many", y.round(0, Due.NONE), Due.NO);
            Due.due("the first", y.round(0, 0), Due.NO);
            Due.due("far beyond", y.round(0, Due.HIGH), Due.NO);
            Due.due("below NONE", y.round(0, -2), Due.BAD);
        }
        Due.due("four mirrors, no end", Due.row(1, 3, 3, 5).round(0, 0), Due.SPENT);
    }

    private static void alike() {
        Due.promise(35, "TWO BODIES ALIKE: 1, 0.");
        EvenBodies x = Due.cube();
        Due.put(x, 1, 7, 2, 2);
        Due.put(x, 2, 5, 4, 2);
        Due.put(x, 3, 4, 4, 3);
        Due.due("with itself", x.alike(0, 0), 1);
        Due.due("the cube and the box", x.alike(0, 1), 1);
        Due.due("the prism of four and the cube", x.alike(2, 0), 1);
        Due.due("the cube and the octahedron", x.alike(0, 3), 0);
        Due.put(x, 3, 2, 3, 3);
        Due.put(x, 2, 1, 3, 4);
        Due.due("two octahedra", x.alike(3, 2), 1);
        Due.promise(35, "NO: one has not three MIRRORS.");
        int[][] rows = {{}, {5}, {3, 3, 3}};
        for (int[] row : rows) {
            Due.put(x, 1, 1, row);
            Due.due("the first has not", x.alike(1, 0), Due.NO);
            Due.due("the second has not", x.alike(0, 1), Due.NO);
            Due.due("both have not", x.alike(1, 1), Due.NO);
        }
        Due.promise(35, "BAD; SPENT;");
        int[] noBody = {Due.LOW, -1, 4, Due.HIGH};
        Due.put(x, 2, 1, 6, 3);
        for (int b : noBody) {
            Due.due("alike(0, " + b + ")", x.alike(0, b), Due.BAD);
            Due.due("alike(" + b + ", 0)", x.alike(b, 0), Due.BAD);
            Due.due("of one that has not three", x.alike(1, b), Due.BAD);
            Due.due("of one with no end", x.alike(2, b), Due.BAD);
        }
        Due.due("the first has no end", x.alike(2, 0), Due.SPENT);
        Due.due("the second has no end", x.alike(0, 2), Due.SPENT);
        Due.due("both have no end", x.alike(2, 2), Due.SPENT);
        Due.due("no end comes before not three", x.alike(1, 2), Due.SPENT);
        Due.due("no end comes before not three", x.alike(2, 1), Due.SPENT);
    }

    private static void unlike() {
        Due.promise(36, "with all sets of RINGED ones");
        Due.due("the fewest: a line, a square, a box", Due.row(1, 2, 2).unlike(0), 3);
        Due.due("of 3 3", Due.row(1, 3, 3).unlike(0), 5);
        Due.due("of 4 3, all unlike", Due.row(2, 4, 3).unlike(0), 7);
        // Ringed ones 1 and 2, 5 and 6 are alike; of an angle 2 between all but two mirrors.
        Due.due("of 5 2", Due.row(7, 5, 2).unlike(0), 5);
        EvenBodies x = Due.cube();
        for (int set = 1; set < 8; set++) {
            x.ring(0, set);
            Due.due("whatever is ringed", x.unlike(0), 7);
            Due.due("and it stays so", x.about(0, 1, 0), set);
        }
        Due.put(x, 1, 1, 4, 3);
        Due.put(x, 2, 1, 3, 3);
        Due.due("of another body with such mirrors", x.unlike(1), 7);
        Due.due("of another body with other ones", x.unlike(2), 5);
        Due.due("of the first again", x.unlike(0), 7);
        x.angle(0, 0, 1, 3);
        Due.due("of the first with another angle", x.unlike(0), 5);
        Due.promise(36, "BAD; SPENT; NO.");
        Due.due("no body", x.unlike(4), Due.BAD);
        Due.due("no body", x.unlike(-1), Due.BAD);
        Due.due("no end", Due.endless().unlike(0), Due.SPENT);
        Due.due("one mirror", new EvenBodies().unlike(0), Due.NO);
        Due.due("two mirrors", Due.row(1, 5).unlike(0), Due.NO);
        Due.due("four mirrors", Due.row(1, 3, 3, 3).unlike(0), Due.NO);
        Due.due("four mirrors, no end", Due.row(1, 3, 3, 5).unlike(0), Due.SPENT);
    }
}
