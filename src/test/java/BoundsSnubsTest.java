import java.io.IOException;

/** The boundary cases of promises 37 to 45: snubs, duals, the digest. The snub of 4 3 has 24 corners. */
public final class BoundsSnubsTest {
    private static final int[] NO_WHAT = {Due.LOW, -1, 3, Due.HIGH};
    private static final int[] NO_CORNER = {Due.LOW, -1, 24, 48, Due.HIGH};

    public static void main(String[] args) throws IOException {
        Due.begin();
        snub();
        snubLaw();
        snubDegree();
        snubFar();
        snubFaces();
        dual();
        dualDegree();
        dualFar();
        digest();
        digestRefused();
        Due.end();
    }

    /** Bodies, whole ones, that have not three mirrors. */
    private static EvenBodies[] notThree() {
        return new EvenBodies[] {new EvenBodies(), Due.row(1, 5), Due.row(3, 2), Due.row(1, 3, 3, 3), Due.row(15, 2, 2, 2)};
    }

    /** Four mirrors, and above 500 elements. */
    private static EvenBodies fourSpent() {
        return Due.row(1, 3, 3, 5);
    }

    private static void snub() {
        EvenBodies x = Due.cube();
        Due.promise(37, "of CORNERS (0), EDGES (1), PLATES (2).");
        Due.due("snub(0, 0)", x.snub(0, 0), 24);
        Due.due("snub(0, 1)", x.snub(0, 1), 60);
        Due.due("snub(0, 2)", x.snub(0, 2), 38);
        EvenBodies least = Due.box();
        Due.due("the fewest corners", least.snub(0, 0), 4);
        Due.due("the fewest edges", least.snub(0, 1), 6);
        Due.due("the fewest plates", least.snub(0, 2), 4);
        EvenBodies most = Due.row(1, 3, 5);
        Due.due("the most corners", most.snub(0, 0), 60);
        Due.due("the most edges", most.snub(0, 1), 150);
        Due.due("the most plates", most.snub(0, 2), 92);
        Due.due("plates of six, too", Due.row(1, 6, 2).snub(0, 2), 14);
        Due.promise(37, "BAD; SPENT; NO.");
        for (int what : NO_WHAT) {
            Due.due("snub(0, " + what + ")", x.snub(0, what), Due.BAD);
            Due.due("no end", Due.endless().snub(0, what), Due.BAD);
            Due.due("not three", Due.row(1, 5).snub(0, what), Due.BAD);
        }
        Due.due("no body", x.snub(4, 0), Due.BAD);
        Due.due("no body", x.snub(-1, 0), Due.BAD);
        for (int what = 0; what < 3; what++) {
            Due.due("no end", Due.endless().snub(0, what), Due.SPENT);
            Due.due("no end, not three", fourSpent().snub(0, what), Due.SPENT);
            for (EvenBodies y : notThree()) {
                Due.due("not three", y.snub(0, what), Due.NO);
            }
        }
    }

    private static void snubLaw() {
        Due.promise(38, "CORNERS less EDGES and PLATES.");
        Due.due("24 less 60 and 38", Due.cube().snubLaw(0), 2);
        Due.due("4 less 6 and 4", Due.box().snubLaw(0), 2);
        Due.due("10 less 20 and 12", Due.row(1, 5, 2).snubLaw(0), 2);
        Due.due("12 less 24 and 14", Due.row(1, 6, 2).snubLaw(0), 2);
        Due.promise(38, "BAD; SPENT; NO.");
        Due.due("no body", Due.cube().snubLaw(4), Due.BAD);
        Due.due("no body", Due.cube().snubLaw(-1), Due.BAD);
        Due.due("no end", Due.endless().snubLaw(0), Due.SPENT);
        Due.due("no end, not three", fourSpent().snubLaw(0), Due.SPENT);
        for (EvenBodies y : notThree()) {
            Due.due("not three", y.snubLaw(0), Due.NO);
        }
    }

    private static void snubDegree() {
        EvenBodies x = Due.cube();
        Due.promise(39, "How many EDGES of THE SNUB are at a CORNER (its number).");
        for (int corner = 0; corner < 24; corner++) {
            Due.due("snubDegree(0, " + corner + ")", x.snubDegree(0, corner), 5);
        }
        Due.due("an angle of 2 has one edge", Due.box().snubDegree(0, 3), 3);
        Due.due("two angles of 2", Due.row(1, 5, 2).snubDegree(0, 9), 4);
        Due.promise(39, "BAD: also not so many");
        for (int corner : NO_CORNER) {
            Due.due("snubDegree(0, " + corner + ")", x.snubDegree(0, corner), Due.BAD);
        }
        Due.due("no fifth", Due.box().snubDegree(0, 4), Due.BAD);
        Due.due("no body", x.snubDegree(4, 0), Due.BAD);
        Due.due("no body", x.snubDegree(-1, 0), Due.BAD);
        Due.promise(39, "SPENT; NO.");
        Due.due("no end", Due.endless().snubDegree(0, 0), Due.SPENT);
        Due.due("no end, below 0", Due.endless().snubDegree(0, -1), Due.BAD);
        Due.due("no end, not three", fourSpent().snubDegree(0, 0), Due.SPENT);
        for (EvenBodies y : notThree()) {
            Due.due("not three", y.snubDegree(0, 0), Due.NO);
            Due.due("not three, a high number", y.snubDegree(0, Due.HIGH), Due.NO);
            Due.due("not three, below 0", y.snubDegree(0, -1), Due.BAD);
        }
    }

    private static void snubFar() {
        EvenBodies x = Due.cube();
        Due.promise(40, "HOW FAR two CORNERS of THE SNUB are.");
        int most = 0;
        for (int corner = 0; corner < 24; corner++) {
            Due.due("to itself", x.snubFar(0, corner, corner), 0);
            Due.due("and back", x.snubFar(0, corner, 23), x.snubFar(0, 23, corner));
            most = Math.max(most, x.snubFar(0, 0, corner));
        }
        Due.due("the most", most, 4);
        Due.due("all four are near", Due.box().snubFar(0, 0, 3), 1);
        Due.promise(40, "BAD; SPENT; NO.");
        for (int corner : NO_CORNER) {
            Due.due("snubFar(0, " + corner + ", 0)", x.snubFar(0, corner, 0), Due.BAD);
            Due.due("snubFar(0, 0, " + corner + ")", x.snubFar(0, 0, corner), Due.BAD);
            Due.due("both", x.snubFar(0, corner, corner), Due.BAD);
        }
        Due.due("no body", x.snubFar(4, 0, 0), Due.BAD);
        Due.due("no body", x.snubFar(-1, 0, 0), Due.BAD);
        Due.due("no end", Due.endless().snubFar(0, 0, 0), Due.SPENT);
        Due.due("no end, below 0", Due.endless().snubFar(0, 0, -1), Due.BAD);
        Due.due("no end, below 0", Due.endless().snubFar(0, -1, 0), Due.BAD);
        Due.due("no end, not three", fourSpent().snubFar(0, 0, 0), Due.SPENT);
        for (EvenBodies y : notThree()) {
            Due.due("not three", y.snubFar(0, 0, 0), Due.NO);
            Due.due("not three, a high number", y.snubFar(0, 0, Due.HIGH), Due.NO);
            Due.due("not three, a high number", y.snubFar(0, Due.HIGH, 0), Due.NO);
            Due.due("not three, below 0", y.snubFar(0, 0, -1), Due.BAD);
            Due.due("not three, below 0", y.snubFar(0, -1, 0), Due.BAD);
        }
    }

    private static void snubFaces() {
        EvenBodies x = Due.cube();
        Due.promise(41, "How many PLATES of a size (2 on) THE SNUB has.");
        int[] many = {0, 32, 6, 0, 0, 0};
        for (int k = 0; k < many.length; k++) {
            Due.due("snubFaces(0, " + (2 + k) + ")", x.snubFaces(0, 2 + k), many[k]);
        }
        Due.due("far beyond", x.snubFaces(0, Due.HIGH), 0);
        Due.due("angles of 2 make none", Due.box().snubFaces(0, 2), 0);
        Due.due("of 6", Due.row(1, 6, 2).snubFaces(0, 6), 2);
        Due.due("of 3 beside 6", Due.row(1, 6, 2).snubFaces(0, 3), 12);
        Due.promise(41, "BAD: below 2");
        int[] noSize = {Due.LOW, -1, 0, 1};
        for (int size : noSize) {
            Due.due("snubFaces(0, " + size + ")", x.snubFaces(0, size), Due.BAD);
            Due.due("no end", Due.endless().snubFaces(0, size), Due.BAD);
            Due.due("not three", Due.row(1, 5).snubFaces(0, size), Due.BAD);
        }
        Due.due("no body", x.snubFaces(4, 3), Due.BAD);
        Due.due("no body", x.snubFaces(-1, 3), Due.BAD);
        Due.promise(41, "SPENT; NO.");
        Due.due("no end", Due.endless().snubFaces(0, 2), Due.SPENT);
        Due.due("no end, not three", fourSpent().snubFaces(0, 2), Due.SPENT);
        for (EvenBodies y : notThree()) {
            Due.due("not three", y.snubFaces(0, 2), Due.NO);
            Due.due("not three, far beyond", y.snubFaces(0, Due.HIGH), Due.NO);
        }
    }

    private static void dual() {
        EvenBodies x = Due.cube();
        Due.promise(42, "how many corners (0), joins (1), faces (2).");
        Due.due("dual(0, 0)", x.dual(0, 0), 6);
        Due.due("dual(0, 1)", x.dual(0, 1), 12);
        Due.due("dual(0, 2)", x.dual(0, 2), 8);
        int[] most = {62, 180, 120};
        int[] plate = {1, 0, 5};
        int[] line = {0, 0, 2};
        for (int what = 0; what < 3; what++) {
            Due.due("the most, " + what, Due.row(7, 3, 5).dual(0, what), most[what]);
            Due.due("of a plate alone, " + what, Due.row(1, 5, 2).dual(0, what), plate[what]);
            Due.due("of an edge alone, " + what, Due.row(4, 5, 2).dual(0, what), line[what]);
        }
        Due.promise(42, "BAD; SPENT; NO.");
        for (int what : NO_WHAT) {
            Due.due("dual(0, " + what + ")", x.dual(0, what), Due.BAD);
            Due.due("no end", Due.endless().dual(0, what), Due.BAD);
            Due.due("not three", Due.row(1, 5).dual(0, what), Due.BAD);
        }
        Due.due("no body", x.dual(4, 0), Due.BAD);
        Due.due("no body", x.dual(-1, 0), Due.BAD);
        for (int what = 0; what < 3; what++) {
            Due.due("no end", Due.endless().dual(0, what), Due.SPENT);
            Due.due("no end, not three", fourSpent().dual(0, what), Due.SPENT);
            for (EvenBodies y : notThree()) {
                Due.due("not three", y.dual(0, what), Due.NO);
            }
        }
    }

    private static void dualDegree() {
        EvenBodies x = Due.row(3, 4, 3);
        Due.promise(43, "How many corners of THE DUAL have so many joins.");
        int[] many = {0, 0, 0, 8, 0, 0, 0, 0, 6, 0};
        for (int joins = 0; joins < many.length; joins++) {
            Due.due("dualDegree(0, " + joins + ")", x.dualDegree(0, joins), many[joins]);
        }
        Due.due("far beyond", x.dualDegree(0, Due.HIGH), 0);
        Due.due("none at all: a plate alone", Due.row(1, 5, 2).dualDegree(0, 0), 1);
        Due.due("no corners at all", Due.row(4, 5, 2).dualDegree(0, 0), 0);
        Due.due("the most joins", Due.row(7, 6, 2).dualDegree(0, 12), 2);
        Due.promise(43, "BAD: below 0");
        Due.due("dualDegree(0, -1)", x.dualDegree(0, -1), Due.BAD);
        Due.due("dualDegree(0, lowest)", x.dualDegree(0, Due.LOW), Due.BAD);
        Due.due("no end", Due.endless().dualDegree(0, -1), Due.BAD);
        Due.due("not three", Due.row(1, 5).dualDegree(0, -1), Due.BAD);
        Due.due("no body", x.dualDegree(4, 0), Due.BAD);
        Due.due("no body", x.dualDegree(-1, 0), Due.BAD);
        Due.promise(43, "SPENT; NO.");
        Due.due("no end", Due.endless().dualDegree(0, 0), Due.SPENT);
        Due.due("no end, not three", fourSpent().dualDegree(0, 0), Due.SPENT);
        for (EvenBodies y : notThree()) {
            Due.due("not three", y.dualDegree(0, 0), Due.NO);
            Due.due("not three, far beyond", y.dualDegree(0, Due.HIGH), Due.NO);
        }
    }

    private static void dualFar() {
        Due.promise(44, "The most joins that a shortest way between two corners of THE DUAL has.");
        Due.due("no corner", Due.row(4, 5, 2).dualFar(0), 0);
        Due.due("one corner", Due.row(1, 5, 2).dualFar(0), 0);
        Due.due("all joined", Due.row(1, 3, 3).dualFar(0), 1);
        Due.due("of the cube", Due.cube().dualFar(0), 2);
        Due.due("of the octahedron", Due.octahedron().dualFar(0), 3);
        // From one of the two plates of six to the other, and between two at the side, it is two joins.
        Due.due("of a prism of six", Due.row(5, 6, 2).dualFar(0), 2);
        Due.due("of the great rhomb of 3 5", Due.row(7, 3, 5).dualFar(0), 6);
        // Two plates of three that stand opposite are farther than two of eight: whichever kind comes first.
        int[] orders = {12, 21, 102, 120, 201, 210};
        for (int order : orders) {
            EvenBodies x = Due.row(3, 4, 3);
            x.order(0, order, 0);
            Due.due("of plates of three and eight", x.dualFar(0), 3);
            Due.put(x, 0, 7, 4, 3);
            x.order(0, order, 0);
            Due.due("of plates of four, six and eight", x.dualFar(0), 4);
            // From one plate of three to the next are two joins, as along an edge of the cube.
            Due.put(x, 0, 5, 4, 3);
            x.order(0, order, 0);
            Due.due("of plates of three and four", x.dualFar(0), 6);
        }
        Due.promise(44, "BAD; SPENT; NO.");
        Due.due("no body", Due.cube().dualFar(4), Due.BAD);
        Due.due("no body", Due.cube().dualFar(-1), Due.BAD);
        Due.due("no end", Due.endless().dualFar(0), Due.SPENT);
        Due.due("no end, not three", fourSpent().dualFar(0), Due.SPENT);
        for (EvenBodies y : notThree()) {
            Due.due("not three", y.dualFar(0), Due.NO);
        }
    }

    private static long digestOf(int... row) {
        long h = 271;
        for (int v : row) {
            h = 31 * h + v;
        }
        return h;
    }

    private static void digest() {
        EvenBodies x = new EvenBodies();
        Due.promise(45, "h = 271; then h = 31 h + v for each v");
        Due.due("at first", x.digest(), digestOf(1, 1, 2, 1, 1, 2, 1, 1, 2, 1, 1, 2));
        Due.due("again", x.digest(), digestOf(1, 1, 2, 1, 1, 2, 1, 1, 2, 1, 1, 2));
        Due.promise(45, "of BODIES r, ANGLES m(i, j) by i below j, RINGED ones, size()");
        x.body(2, 4);
        int[][] pairs = {{0, 1}, {0, 2}, {0, 3}, {1, 2}, {1, 3}, {2, 3}};
        int[] angles = {2, 3, 2, 3, 4, 2};
        for (int k = 0; k < pairs.length; k++) {
            x.angle(2, pairs[k][1], pairs[k][0], angles[k]);
        }
        x.ring(2, 13);
        Due.due("four mirrors", x.digest(), digestOf(1, 1, 2, 1, 1, 2, 4, 2, 3, 2, 3, 4, 2, 13, 384, 1, 1, 2));
        Due.put(x, 0, 6, 4, 3);
        Due.put(x, 3, 2, 5);
        Due.due("all sorts", x.digest(),
            digestOf(3, 4, 2, 3, 6, 48, 1, 1, 2, 4, 2, 3, 2, 3, 4, 2, 13, 384, 2, 5, 2, 10));
        long h = x.digest();
        // Above 2^63: what a long does not hold has gone round.
        java.math.BigInteger whole = java.math.BigInteger.valueOf(271);
        int[] row = {3, 4, 2, 3, 6, 48, 1, 1, 2, 4, 2, 3, 2, 3, 4, 2, 13, 384, 2, 5, 2, 10};
        for (int v : row) {
            whole = whole.multiply(java.math.BigInteger.valueOf(31)).add(java.math.BigInteger.valueOf(v));
        }
        Due.due("it goes round", h, whole.longValue());
        Due.due("and no long holds it all", whole.bitLength() > 63 ? 1 : 0, 1);
    }

    private static void digestRefused() {
        Due.promise(45, "(or what refuses it)");
        EvenBodies x = Due.endless();
        Due.due("no end", x.digest(), digestOf(3, 6, 2, 3, 1, Due.SPENT, 1, 1, 2, 1, 1, 2, 1, 1, 2));
        Due.put(x, 3, 9, 3, 4, 3);
        Due.due("above 500", x.digest(),
            digestOf(3, 6, 2, 3, 1, Due.SPENT, 1, 1, 2, 1, 1, 2, 4, 3, 2, 2, 4, 2, 3, 9, Due.SPENT));
        x.angle(0, 0, 1, 5);
        Due.due("whole again", x.digest(),
            digestOf(3, 5, 2, 3, 1, 120, 1, 1, 2, 1, 1, 2, 4, 3, 2, 2, 4, 2, 3, 9, Due.SPENT));
    }
}
