import java.io.IOException;

/** The boundary cases of promises 17 to 27: parts. Of the cube, with mirror 0 ringed, 0, 1, 3 and 7 are kinds. */
public final class BoundsPartsTest {
    private static final int[] NO_KIND = {Due.LOW, -1, 2, 4, 5, 6, 8, 9, 15, Due.HIGH};

    public static void main(String[] args) throws IOException {
        Due.begin();
        kinds();
        kind();
        parts();
        partOf();
        least();
        corners();
        cornerOf();
        liesIn();
        within();
        count();
        law();
        Due.end();
    }

    private static void kinds() {
        Due.promise(17, "(0 .. r)");
        EvenBodies x = Due.cube();
        for (int r = 1; r <= 4; r++) {
            x.body(1, r);
            Due.due("width 0 of " + r, x.kinds(1, 0), 1);
            Due.due("width r of " + r + ", one ringed of those not joined", x.kinds(1, r), r == 1 ? 1 : 0);
            x.ring(1, (1 << r) - 1);
            Due.due("width r of " + r + ", all ringed", x.kinds(1, r), 1);
            Due.due("width 1 of " + r + ", all ringed", x.kinds(1, 1), r);
        }
        Due.promise(17, "BAD.");
        for (int r = 1; r <= 4; r++) {
            x.body(1, r);
            Due.due("above r of " + r, x.kinds(1, r + 1), Due.BAD);
            Due.due("below 0", x.kinds(1, -1), Due.BAD);
        }
        Due.due("lowest", x.kinds(0, Due.LOW), Due.BAD);
        Due.due("highest", x.kinds(0, Due.HIGH), Due.BAD);
        Due.due("no body", x.kinds(4, 0), Due.BAD);
        Due.due("no body", x.kinds(-1, 0), Due.BAD);
        Due.promise(17, "(Not SPENT.)");
        EvenBodies spent = Due.endless();
        for (int width = 0; width <= 3; width++) {
            Due.due("no end, width " + width, spent.kinds(0, width), 1);
        }
        Due.due("no end, asked for its size before", spent.size(0), Due.SPENT);
        Due.due("no end, asked for its size before", spent.kinds(0, 2), 1);
        Due.due("no end, above r", spent.kinds(0, 4), Due.BAD);
    }

    private static void kind() {
        EvenBodies x = Due.row(5, 4, 3);
        Due.promise(18, "The i-th of them, as bits.");
        int[][] all = {{0}, {1, 4}, {3, 5, 6}, {7}};
        for (int width = 0; width < all.length; width++) {
            for (int i = 0; i < all[width].length; i++) {
                Due.due("kind(0, " + width + ", " + i + ")", x.kind(0, width, i), all[width][i]);
            }
        }
        Due.promise(18, "NONE: not so many.");
        for (int width = 0; width < all.length; width++) {
            Due.due("one too many of width " + width, x.kind(0, width, all[width].length), Due.NONE);
            Due.due("far beyond of width " + width, x.kind(0, width, Due.HIGH), Due.NONE);
        }
        x.body(1, 2);
        Due.due("there is none at all", x.kind(1, 2, 0), Due.NONE);
        Due.promise(18, "BAD: i below 0, too.");
        Due.due("i -1", x.kind(0, 0, -1), Due.BAD);
        Due.due("i lowest", x.kind(0, 3, Due.LOW), Due.BAD);
        Due.due("i below 0 where there is none", x.kind(1, 2, -1), Due.BAD);
        Due.due("width above r", x.kind(0, 4, 0), Due.BAD);
        Due.due("width above r, far beyond", x.kind(0, 4, Due.HIGH), Due.BAD);
        Due.due("width below 0", x.kind(0, -1, 0), Due.BAD);
        Due.due("no body", x.kind(4, 0, 0), Due.BAD);
        Due.due("no body", x.kind(-1, 0, 0), Due.BAD);
        Due.due("no end is not refused", Due.endless().kind(0, 3, 0), 7);
    }

    private static void parts() {
        EvenBodies x = Due.cube();
        Due.promise(19, "How many PARTS of a KIND.");
        int[][] many = {{0, 8}, {1, 12}, {3, 6}, {7, 1}};
        for (int[] pair : many) {
            Due.due("parts(0, " + pair[0] + ")", x.parts(0, pair[0]), pair[1]);
        }
        Due.promise(19, "BAD: also no KIND");
        for (int kind : NO_KIND) {
            Due.due("parts(0, " + kind + ")", x.parts(0, kind), Due.BAD);
        }
        Due.due("one mirror: 2 is no set", x.parts(1, 2), Due.BAD);
        Due.due("no body", x.parts(4, 0), Due.BAD);
        Due.due("no body", x.parts(-1, 0), Due.BAD);
        x.ring(0, 4);
        Due.due("of other ringed ones it is one", x.parts(0, 4), 12);
        Due.due("of other ringed ones it is none", x.parts(0, 1), Due.BAD);
        Due.promise(19, "SPENT.");
        Due.due("no end", Due.endless().parts(0, 0), Due.SPENT);
        Due.due("no end, no kind", Due.endless().parts(0, 2), Due.BAD);
    }

    private static void partOf() {
        EvenBodies x = Due.cube();
        Due.promise(20, "The PART of a KIND that has an ELEMENT.");
        int[][] last = {{0, 7}, {1, 11}, {3, 5}, {7, 0}};
        for (int[] pair : last) {
            Due.due("of element 0", x.partOf(0, pair[0], 0), 0);
            Due.due("of the last, kind " + pair[0], x.partOf(0, pair[0], 47), pair[1]);
        }
        Due.promise(20, "BAD, SPENT.");
        int[] noElement = {Due.LOW, -1, 48, 500, Due.HIGH};
        for (int g : noElement) {
            Due.due("partOf(0, 0, " + g + ")", x.partOf(0, 0, g), Due.BAD);
            Due.due("partOf(0, 7, " + g + ")", x.partOf(0, 7, g), Due.BAD);
        }
        for (int kind : NO_KIND) {
            Due.due("partOf(0, " + kind + ", 0)", x.partOf(0, kind, 0), Due.BAD);
        }
        Due.due("no body", x.partOf(4, 0, 0), Due.BAD);
        Due.due("no end", Due.endless().partOf(0, 0, 0), Due.SPENT);
    }

    private static void least() {
        EvenBodies x = Due.cube();
        Due.promise(21, "The least ELEMENT of a PART.");
        int[] kinds = {0, 1, 3, 7};
        for (int kind : kinds) {
            Due.due("of part 0", x.least(0, kind, 0), 0);
            int before = -1;
            for (int part = 0; part < x.parts(0, kind); part++) {
                int g = x.least(0, kind, part);
                Due.due("it is of its own part", x.partOf(0, kind, g), part);
                Due.due("parts are numbered by their least", g > before ? 1 : 0, 1);
                before = g;
            }
        }
        Due.promise(21, "BAD: also not so many");
        int[][] many = {{0, 8}, {1, 12}, {3, 6}, {7, 1}};
        for (int[] pair : many) {
            Due.due("kind " + pair[0], x.least(0, pair[0], pair[1]), Due.BAD);
            Due.due("kind " + pair[0], x.least(0, pair[0], -1), Due.BAD);
            Due.due("kind " + pair[0], x.least(0, pair[0], Due.LOW), Due.BAD);
            Due.due("kind " + pair[0], x.least(0, pair[0], Due.HIGH), Due.BAD);
        }
        for (int kind : NO_KIND) {
            Due.due("least(0, " + kind + ", 0)", x.least(0, kind, 0), Due.BAD);
        }
        Due.due("no body", x.least(4, 0, 0), Due.BAD);
        Due.promise(21, "SPENT.");
        Due.due("no end", Due.endless().least(0, 0, 0), Due.SPENT);
    }

    private static void corners() {
        EvenBodies x = Due.cube();
        Due.promise(22, "How many CORNERS a PART has.");
        Due.due("a corner: its own", x.corners(0, 0, 0), 1);
        Due.due("the last corner", x.corners(0, 0, 7), 1);
        Due.due("the last edge", x.corners(0, 1, 11), 2);
        Due.due("the last plate", x.corners(0, 3, 5), 4);
        Due.due("the whole", x.corners(0, 7, 0), 8);
        Due.due("a plate, asked for first", Due.cube().corners(0, 3, 5), 4);
        Due.due("the whole, asked for first", Due.row(15, 3, 3, 4).corners(0, 15, 0), 384);
        x.ring(0, 7);
        Due.due("a plate of other ringed ones", x.corners(0, 3, 5), 8);
        Due.due("an edge of other ringed ones", x.corners(0, 4, 23), 2);
        x.ring(0, 1);
        Due.promise(22, "BAD, SPENT.");
        int[][] many = {{0, 8}, {1, 12}, {3, 6}, {7, 1}};
        for (int[] pair : many) {
            Due.due("kind " + pair[0], x.corners(0, pair[0], pair[1]), Due.BAD);
            Due.due("kind " + pair[0], x.corners(0, pair[0], -1), Due.BAD);
            Due.due("kind " + pair[0], x.corners(0, pair[0], Due.HIGH), Due.BAD);
        }
        for (int kind : NO_KIND) {
            Due.due("corners(0, " + kind + ", 0)", x.corners(0, kind, 0), Due.BAD);
        }
        Due.due("no body", x.corners(4, 0, 0), Due.BAD);
        Due.due("no end", Due.endless().corners(0, 0, 0), Due.SPENT);
    }

    private static void cornerOf() {
        EvenBodies x = Due.cube();
        Due.promise(23, "The i-th of them, rising.");
        int[][] sizes = {{0, 1}, {1, 2}, {3, 4}, {7, 8}};
        for (int[] pair : sizes) {
            int last = x.parts(0, pair[0]) - 1;
            int before = -1;
            for (int i = 0; i < pair[1]; i++) {
                int corner = x.cornerOf(0, pair[0], last, i);
                Due.due("rising, kind " + pair[0], corner > before ? 1 : 0, 1);
                Due.due("it has it, kind " + pair[0], pair[0] == 0 ? corner : x.liesIn(0, 0, corner, pair[0], last),
                    pair[0] == 0 ? last : 1);
                before = corner;
            }
        }
        Due.promise(23, "NONE: not so many.");
        for (int[] pair : sizes) {
            Due.due("one too many, kind " + pair[0], x.cornerOf(0, pair[0], 0, pair[1]), Due.NONE);
            Due.due("far beyond, kind " + pair[0], x.cornerOf(0, pair[0], 0, Due.HIGH), Due.NONE);
        }
        EvenBodies most = Due.row(15, 3, 3, 4);
        Due.due("the last of 384", most.cornerOf(0, 15, 0, 383), 383);
        Due.due("no more than 384", most.cornerOf(0, 15, 0, 384), Due.NONE);
        Due.promise(23, "BAD: i below 0, too");
        Due.due("i -1", x.cornerOf(0, 7, 0, -1), Due.BAD);
        Due.due("i lowest", x.cornerOf(0, 0, 0, Due.LOW), Due.BAD);
        Due.due("no such part", x.cornerOf(0, 3, 6, 0), Due.BAD);
        Due.due("no such part, far beyond", x.cornerOf(0, 3, 6, 4), Due.BAD);
        Due.due("part below 0", x.cornerOf(0, 3, -1, 0), Due.BAD);
        for (int kind : NO_KIND) {
            Due.due("cornerOf(0, " + kind + ", 0, 0)", x.cornerOf(0, kind, 0, 0), Due.BAD);
        }
        Due.due("no body", x.cornerOf(4, 0, 0, 0), Due.BAD);
        Due.promise(23, "SPENT.");
        Due.due("no end", Due.endless().cornerOf(0, 0, 0, 0), Due.SPENT);
        Due.due("no end, i below 0", Due.endless().cornerOf(0, 0, 0, -1), Due.BAD);
    }

    private static void liesIn() {
        EvenBodies x = Due.cube();
        Due.promise(24, "Whether a PART LIES IN another one: 1, 0.");
        Due.due("corner 0 in edge 0", x.liesIn(0, 0, 0, 1, 0), 1);
        Due.due("the last corner in the last edge", x.liesIn(0, 0, 7, 1, 11), 1);
        Due.due("the last corner in edge 0", x.liesIn(0, 0, 7, 1, 0), 0);
        Due.due("corner 0 in the last edge", x.liesIn(0, 0, 0, 1, 11), 0);
        Due.due("the last plate in the whole", x.liesIn(0, 3, 5, 7, 0), 1);
        Due.due("the whole in a plate", x.liesIn(0, 7, 0, 3, 0), 0);
        Due.due("a corner in itself", x.liesIn(0, 0, 3, 0, 3), 0);
        Due.due("a plate in itself", x.liesIn(0, 3, 0, 3, 0), 0);
        Due.due("the whole in itself", x.liesIn(0, 7, 0, 7, 0), 0);
        Due.due("element 0 alone in common", Due.row(7, 4, 3).liesIn(0, 0, 0, 1, 0), 1);
        Due.due("the last element alone in common", Due.row(7, 4, 3).liesIn(0, 0, 47, 1, 23), 1);
        Due.promise(24, "BAD, SPENT.");
        int[] noCorner = {Due.LOW, -1, 8, Due.HIGH};
        for (int part : noCorner) {
            Due.due("liesIn(0, 0, " + part + ", 3, 0)", x.liesIn(0, 0, part, 3, 0), Due.BAD);
            Due.due("liesIn(0, 3, 0, 0, " + part + ")", x.liesIn(0, 3, 0, 0, part), Due.BAD);
        }
        Due.due("no such plate", x.liesIn(0, 0, 0, 3, 6), Due.BAD);
        Due.due("no second whole", x.liesIn(0, 0, 0, 7, 1), Due.BAD);
        for (int kind : NO_KIND) {
            Due.due("liesIn(0, " + kind + ", 0, 7, 0)", x.liesIn(0, kind, 0, 7, 0), Due.BAD);
            Due.due("liesIn(0, 0, 0, " + kind + ", 0)", x.liesIn(0, 0, 0, kind, 0), Due.BAD);
        }
        Due.due("no body", x.liesIn(4, 0, 0, 3, 0), Due.BAD);
        Due.due("no end", Due.endless().liesIn(0, 0, 0, 3, 0), Due.SPENT);
        Due.due("no end, below 0", Due.endless().liesIn(0, 0, 0, 3, -1), Due.BAD);
        Due.due("no end, no kind", Due.endless().liesIn(0, 0, 0, 2, 0), Due.BAD);
    }

    private static void within() {
        EvenBodies x = Due.cube();
        Due.promise(25, "(in all ways round: its own CORNER of a CORNER is none)");
        for (int corner = 0; corner < 8; corner++) {
            Due.due("within(0, 0, 0, " + corner + ")", x.within(0, 0, 0, corner), 0);
        }
        int[] kinds = {0, 1, 3, 7};
        int[][] many = {{0, 2, 4, 8}, {0, 0, 4, 12}, {0, 0, 0, 6}, {0, 0, 0, 0}};
        for (int k = 0; k < 4; k++) {
            for (int n = 0; n < 4; n++) {
                int last = x.parts(0, kinds[n]) - 1;
                String call = "kind " + kinds[k] + " in kind " + kinds[n];
                Due.due(call + ", the first", x.within(0, kinds[k], kinds[n], 0), many[k][n]);
                Due.due(call + ", the last", x.within(0, kinds[k], kinds[n], last), many[k][n]);
            }
        }
        x.ring(0, 5);
        Due.due("edges of the one kind in a plate of the other mirrors", x.within(0, 1, 6, 0), 0);
        Due.due("plates of other kinds", x.within(0, 3, 6, 0), 0);
        x.ring(0, 1);
        Due.promise(25, "BAD, SPENT.");
        for (int kind : NO_KIND) {
            Due.due("within(0, " + kind + ", 7, 0)", x.within(0, kind, 7, 0), Due.BAD);
            Due.due("within(0, 0, " + kind + ", 0)", x.within(0, 0, kind, 0), Due.BAD);
        }
        int[] noPlate = {Due.LOW, -1, 6, Due.HIGH};
        for (int part : noPlate) {
            Due.due("within(0, 0, 3, " + part + ")", x.within(0, 0, 3, part), Due.BAD);
            Due.due("within(0, 3, 3, " + part + ")", x.within(0, 3, 3, part), Due.BAD);
        }
        Due.due("no body", x.within(4, 0, 3, 0), Due.BAD);
        Due.due("no end", Due.endless().within(0, 0, 3, 0), Due.SPENT);
        Due.due("no end, where it would be none", Due.endless().within(0, 0, 0, 0), Due.SPENT);
        Due.due("no end, no kind", Due.endless().within(0, 2, 3, 0), Due.BAD);
    }

    private static void count() {
        Due.promise(26, "THE COUNT of a WIDTH (0 .. r).");
        EvenBodies x = Due.cube();
        int[] cube = {8, 12, 6, 1};
        for (int width = 0; width < cube.length; width++) {
            Due.due("count(0, " + width + ")", x.count(0, width), cube[width]);
        }
        for (int r = 1; r <= 4; r++) {
            x.body(1, r);
            x.ring(1, (1 << r) - 1);
            Due.due("width 0 of " + r, x.count(1, 0), 1 << r);
            Due.due("width r of " + r, x.count(1, r), 1);
        }
        x.ring(1, 7);
        Due.due("no kind of width r", x.count(1, 4), 0);
        Due.promise(26, "BAD, SPENT.");
        for (int r = 1; r <= 4; r++) {
            x.body(1, r);
            Due.due("above r of " + r, x.count(1, r + 1), Due.BAD);
            Due.due("below 0", x.count(1, -1), Due.BAD);
        }
        Due.due("lowest", x.count(0, Due.LOW), Due.BAD);
        Due.due("highest", x.count(0, Due.HIGH), Due.BAD);
        Due.due("no body", x.count(4, 0), Due.BAD);
        Due.due("no end", Due.endless().count(0, 0), Due.SPENT);
        Due.due("no end, the whole", Due.endless().count(0, 3), Due.SPENT);
        Due.due("no end, above r", Due.endless().count(0, 4), Due.BAD);
    }

    private static void law() {
        Due.promise(27, "THE LAW.");
        Due.due("one mirror: two corners", new EvenBodies().law(0), 2);
        Due.due("two mirrors: 5 less 5", Due.row(1, 5).law(0), 0);
        Due.due("three: 8 less 12 and 6", Due.cube().law(0), 2);
        Due.due("four: 16 less 32 and 24 less 8", Due.row(15, 2, 2, 2).law(0), 0);
        Due.due("two mirrors, one edge alone", Due.row(1, 2).law(0), 1);
        Due.due("three mirrors, a plate alone", Due.row(1, 5, 2).law(0), 1);
        Due.due("four mirrors, a cell alone", Due.row(7, 2, 2, 2).law(0), 1);
        Due.promise(27, "BAD, SPENT.");
        Due.due("no body", new EvenBodies().law(4), Due.BAD);
        Due.due("no body", new EvenBodies().law(-1), Due.BAD);
        Due.due("no end", Due.endless().law(0), Due.SPENT);
    }
}
