/** Each promise of the document by its number: ordinary numbers, the edges that it names, and wrong ones. */
public final class PromisesTest {
    private static final int NONE = -1, BAD = -2, NO = -3, SPENT = -5;
    private static final int LOW = Integer.MIN_VALUE, HIGH = Integer.MAX_VALUE;
    private static int wrong;
    private static int promise;

    public static void main(String[] args) {
        newObject();
        mirrors();
        group();
        classes();
        kinds();
        parts();
        counts();
        ways();
        round();
        likeness();
        snubs();
        duals();
        digest();
        spent();
        notThree();
        changes();
        System.out.println(wrong == 0 ? "all promises are kept" : wrong + " answers are not as due");
        if (wrong != 0) {
            System.exit(1);
        }
    }

    private static void due(String what, long got, long want) {
        if (got != want) {
            wrong++;
            System.out.println("promise " + promise + ": " + what + ": " + got + ", due is " + want);
        }
    }

    /** A body with mirrors in a row, all of whose angles are 2 but those between neighbours. */
    private static EvenBodies row(int b, int ringed, int... angles) {
        EvenBodies x = new EvenBodies();
        put(x, b, ringed, angles);
        return x;
    }

    private static void put(EvenBodies x, int b, int ringed, int... angles) {
        x.body(b, angles.length + 1);
        for (int i = 0; i < angles.length; i++) {
            x.angle(b, i, i + 1, angles[i]);
        }
        x.ring(b, ringed);
    }

    private static void newObject() {
        promise = 1;
        EvenBodies x = new EvenBodies();
        for (int b = 0; b < 4; b++) {
            due("mirrors at first", x.about(b, 0, 0), 1);
            due("ringed at first", x.about(b, 1, 0), 1);
            due("joined at first", x.about(b, 2, 0), 0);
            due("size at first", x.size(b), 2);
        }
    }

    private static void mirrors() {
        EvenBodies x = new EvenBodies();
        promise = 2;
        due("body", x.body(3, 4), 1);
        due("its mirrors", x.about(3, 0, 0), 4);
        due("no body -1", x.body(-1, 1), BAD);
        due("no body 4", x.body(4, 1), BAD);
        due("no mirrors", x.body(3, 0), BAD);
        due("five mirrors", x.body(3, 5), BAD);
        due("refused changes nothing", x.about(3, 0, 0), 4);
        promise = 3;
        due("angle", x.angle(3, 0, 2, 6), 2);
        due("angle the other way", x.angle(3, 2, 0, 5), 6);
        due("like mirrors", x.angle(3, 2, 2, 3), BAD);
        due("angle 1", x.angle(3, 0, 1, 1), BAD);
        due("angle 7", x.angle(3, 0, 1, 7), BAD);
        due("mirror -1", x.angle(3, -1, 1, 3), BAD);
        due("mirror 4", x.angle(3, 0, 4, 3), BAD);
        due("no body", x.angle(LOW, 0, 1, 3), BAD);
        due("refused changes nothing", x.angle(3, 0, 1, 2), 2);
        due("another body's mirrors", x.angle(2, 0, 1, 3), BAD);
        promise = 4;
        due("ring", x.ring(3, 15), 1);
        due("ring again", x.ring(3, 9), 15);
        due("none", x.ring(3, 0), BAD);
        due("too many", x.ring(3, 16), BAD);
        due("below none", x.ring(3, -1), BAD);
        due("no body", x.ring(4, 1), BAD);
        due("refused changes nothing", x.about(3, 1, 0), 9);
        promise = 6;
        due("joined to 0", x.about(3, 2, 0), 4);
        due("joined to 2", x.about(3, 2, 2), 1);
        due("joined to 1", x.about(3, 2, 1), 0);
        due("i is not looked at", x.about(3, 0, HIGH), 4);
        due("i is not looked at", x.about(3, 1, LOW), 9);
        due("i is looked at", x.about(3, 2, 4), BAD);
        due("i is looked at", x.about(3, 2, -1), BAD);
        due("what -1", x.about(3, -1, 0), BAD);
        due("what 3", x.about(3, 3, 0), BAD);
        due("no body", x.about(-1, 0, 0), BAD);
        promise = 2;
        due("body anew", x.body(3, 3), 1);
        due("angles anew", x.about(3, 2, 0), 0);
        due("ringed anew", x.about(3, 1, 0), 1);
        orders();
    }

    private static void orders() {
        promise = 5;
        EvenBodies x = row(0, 3, 4, 3, 5);
        due("order", x.order(0, 1302, 2), 1);
        // The mirrors are now old 1, 3, 0, 2: old 0 and 1 are ringed, and old 1 stands beside 0 and 2.
        due("ringed", x.about(2, 1, 0), 5);
        due("joined to 0", x.about(2, 2, 0), 12);
        due("joined to 1", x.about(2, 2, 1), 8);
        due("angle of old 0 and 1", x.angle(2, 0, 2, 2), 4);
        due("angle of old 1 and 2", x.angle(2, 0, 3, 2), 3);
        due("angle of old 2 and 3", x.angle(2, 1, 3, 2), 5);
        due("the one it came of stays", x.about(0, 1, 0), 3);
        put(x, 0, 1, 4, 3);
        due("to itself", x.order(0, 120, 0), 1);
        due("mirror 0 is old 1", x.about(0, 2, 0), 6);
        due("ringed is old 0", x.about(0, 1, 0), 4);
        due("a highest digit of 0", x.order(0, 21, 0), 1);
        due("twice", x.order(0, 110, 1), BAD);
        due("too high", x.order(0, 123, 1), BAD);
        due("a digit too many", x.order(0, 1023, 1), BAD);
        due("below 0", x.order(0, -12, 1), BAD);
        due("no body to", x.order(0, 12, 4), BAD);
        due("no body", x.order(-1, 12, 0), BAD);
        due("refused changes nothing", x.about(1, 0, 0), 1);
        due("one mirror", x.order(1, 0, 1), 1);
        due("one mirror, another digit", x.order(1, 1, 1), BAD);
    }

    private static void group() {
        EvenBodies x = row(0, 1, 3, 3);
        promise = 7;
        due("size", x.size(0), 24);
        due("no body", x.size(4), BAD);
        due("size of 3 3 3", row(1, 1, 3, 3, 3).size(1), 120);
        due("size of 3 3 4", row(1, 1, 3, 3, 4).size(1), 384);
        due("size of 3 5", row(1, 1, 3, 5).size(1), 120);
        due("size of 6", row(1, 1, 6).size(1), 12);
        // By numbers: 0; 1 2 3 are the letters; then 01 02 10 12 21; then 010 012 021 101? which is 010, so 102 ..
        promise = 8;
        due("length of 0", x.length(0, 0), 0);
        due("length of 3", x.length(0, 3), 1);
        due("length of 4", x.length(0, 4), 2);
        due("length of 23", x.length(0, 23), 6);
        due("not so many", x.length(0, 24), BAD);
        due("below 0", x.length(0, -1), BAD);
        promise = 9;
        int[][] twos = {{0, 1}, {0, 2}, {1, 0}, {1, 2}, {2, 1}};
        for (int k = 0; k < twos.length; k++) {
            due("first letter", x.letter(0, 4 + k, 0), twos[k][0]);
            due("second letter", x.letter(0, 4 + k, 1), twos[k][1]);
            due("no third", x.letter(0, 4 + k, 2), NONE);
        }
        due("no letter of 0", x.letter(0, 0, 0), NONE);
        due("far behind", x.letter(0, 23, HIGH), NONE);
        due("i below 0", x.letter(0, 0, -1), BAD);
        due("not so many elements", x.letter(0, 24, 0), BAD);
        promise = 10;
        due("empty word", x.element(0, 0), 0);
        due("letters", x.element(0, 3), 3);
        due("31 is 13", x.element(0, 31), 5);
        due("212 is 121", x.element(0, 212), x.element(0, 121));
        due("121", x.element(0, 121), 9);
        due("1232123211 taken in", x.element(0, 1212121212), x.element(0, 1212));
        due("a digit 0", x.element(0, 101), BAD);
        due("a digit 0 last", x.element(0, 10), BAD);
        due("a digit 4", x.element(0, 14), BAD);
        due("below 0", x.element(0, -1), BAD);
        due("no body", x.element(4, 0), BAD);
        promise = 11;
        due("1 then 2", x.product(0, x.element(0, 1), x.element(0, 2)), x.element(0, 12));
        due("2 then 1", x.product(0, x.element(0, 2), x.element(0, 1)), x.element(0, 21));
        due("123 then 32", x.product(0, x.element(0, 123), x.element(0, 32)), 1);
        due("with the empty one", x.product(0, 17, 0), 17);
        due("not so many", x.product(0, 24, 0), BAD);
        due("not so many", x.product(0, 0, 24), BAD);
        due("below 0", x.product(0, -1, 0), BAD);
        due("below 0", x.product(0, 0, -1), BAD);
        promise = 12;
        due("of 123", x.inverse(0, x.element(0, 123)), x.element(0, 321));
        due("of 0", x.inverse(0, 0), 0);
        due("not so many", x.inverse(0, 24), BAD);
        due("below 0", x.inverse(0, -1), BAD);
    }

    private static void classes() {
        EvenBodies x = row(0, 1, 3, 3);
        promise = 13;
        due("of 0", x.turns(0, 0), 1);
        due("of a mirror", x.turns(0, 2), 2);
        due("of 12", x.turns(0, x.element(0, 12)), 3);
        due("of 123", x.turns(0, x.element(0, 123)), 4);
        due("of 123 in 3 5", row(0, 1, 3, 5).turns(0, row(0, 1, 3, 5).element(0, 123)), 10);
        due("not so many", x.turns(0, 24), BAD);
        due("below 0", x.turns(0, LOW), BAD);
        promise = 14;
        due("of 0", x.classSize(0, 0), 1);
        due("of a mirror", x.classSize(0, 1), 6);
        due("of 12", x.classSize(0, x.element(0, 12)), 8);
        due("of 13", x.classSize(0, x.element(0, 13)), 3);
        due("of 123", x.classSize(0, x.element(0, 123)), 6);
        due("not so many", x.classSize(0, 24), BAD);
        due("below 0", x.classSize(0, -1), BAD);
        promise = 15;
        int[] lengths = {1, 3, 5, 6, 5, 3, 1, 0};
        for (int k = 0; k < lengths.length; k++) {
            due("of length " + k, x.ofLength(0, k), lengths[k]);
        }
        due("far too long", x.ofLength(0, HIGH), 0);
        due("below 0", x.ofLength(0, -1), BAD);
        due("no body", x.ofLength(4, 0), BAD);
        promise = 16;
        due("of 3 3", x.mirrors(0), 6);
        due("of 3 5", row(0, 1, 3, 5).mirrors(0), 15);
        due("of 4", row(0, 1, 4).mirrors(0), 4);
        due("of 3 3 4", row(0, 1, 3, 3, 4).mirrors(0), 16);
        due("of one", new EvenBodies().mirrors(0), 1);
        due("no body", x.mirrors(-1), BAD);
    }

    private static void kinds() {
        EvenBodies x = row(0, 2, 3, 4);
        promise = 17;
        due("of width 0", x.kinds(0, 0), 1);
        due("of width 1", x.kinds(0, 1), 1);
        due("of width 2", x.kinds(0, 2), 2);
        due("of width 3", x.kinds(0, 3), 1);
        due("width 4", x.kinds(0, 4), BAD);
        due("width -1", x.kinds(0, -1), BAD);
        due("no body", x.kinds(4, 0), BAD);
        promise = 18;
        due("of width 0", x.kind(0, 0, 0), 0);
        due("of width 1", x.kind(0, 1, 0), 2);
        due("of width 2", x.kind(0, 2, 0), 3);
        due("of width 2", x.kind(0, 2, 1), 6);
        due("not so many", x.kind(0, 2, 2), NONE);
        due("i below 0", x.kind(0, 2, -1), BAD);
        due("width 4", x.kind(0, 4, 0), BAD);
        due("no body", x.kind(-1, 0, 0), BAD);
        // Mirrors 0 and 2 are not joined, so with mirror 0 ringed alone no kind has mirror 2 without mirror 1.
        x.ring(0, 1);
        due("only 0 1", x.kinds(0, 2), 1);
        due("only 0 1", x.kind(0, 2, 0), 3);
        x.ring(0, 5);
        due("all three", x.kinds(0, 2), 3);
        due("the middle one", x.kind(0, 2, 1), 5);
    }

    private static void parts() {
        EvenBodies x = row(0, 1, 4, 3);
        promise = 19;
        due("corners", x.parts(0, 0), 8);
        due("edges", x.parts(0, 1), 12);
        due("plates", x.parts(0, 3), 6);
        due("the whole", x.parts(0, 7), 1);
        due("no kind", x.parts(0, 2), BAD);
        due("no set", x.parts(0, 8), BAD);
        due("below 0", x.parts(0, -1), BAD);
        due("no body", x.parts(4, 0), BAD);
        promise = 20;
        due("of 0", x.partOf(0, 0, 0), 0);
        due("mirror 1 leaves corner 0", x.partOf(0, 0, 2), 0);
        due("mirror 0 moves it", x.partOf(0, 0, 1), 1);
        due("the farthest one", x.partOf(0, 0, 47), 7);
        due("the farthest plate", x.partOf(0, 3, 47), 5);
        due("not so many", x.partOf(0, 0, 48), BAD);
        due("below 0", x.partOf(0, 0, -1), BAD);
        due("no kind", x.partOf(0, 4, 0), BAD);
        promise = 21;
        due("of corner 0", x.least(0, 0, 0), 0);
        due("of corner 1", x.least(0, 0, 1), 1);
        due("of plate 1", x.least(0, 3, 1), 3);
        due("its own part", x.partOf(0, 3, x.least(0, 3, 4)), 4);
        due("not so many", x.least(0, 3, 6), BAD);
        due("below 0", x.least(0, 3, -1), BAD);
        due("no kind", x.least(0, 2, 0), BAD);
        promise = 22;
        due("of a corner", x.corners(0, 0, 7), 1);
        due("of an edge", x.corners(0, 1, 11), 2);
        due("of a plate", x.corners(0, 3, 5), 4);
        due("of the whole", x.corners(0, 7, 0), 8);
        due("not so many", x.corners(0, 7, 1), BAD);
        due("below 0", x.corners(0, 0, -1), BAD);
        due("no kind", x.corners(0, 6, 0), BAD);
        promise = 23;
        due("of a corner", x.cornerOf(0, 0, 7, 0), 7);
        due("of a corner, no second", x.cornerOf(0, 0, 7, 1), NONE);
        due("of edge 0", x.cornerOf(0, 1, 0, 0), 0);
        due("of edge 0", x.cornerOf(0, 1, 0, 1), 1);
        for (int i = 0; i < 8; i++) {
            due("of the whole", x.cornerOf(0, 7, 0, i), i);
        }
        due("of the whole, no more", x.cornerOf(0, 7, 0, 8), NONE);
        due("i below 0", x.cornerOf(0, 7, 0, -1), BAD);
        due("not so many parts", x.cornerOf(0, 3, 6, 0), BAD);
        due("no kind", x.cornerOf(0, 5, 0, 0), BAD);
        lying(x);
    }

    private static void lying(EvenBodies x) {
        promise = 24;
        due("corner 0 in edge 0", x.liesIn(0, 0, 0, 1, 0), 1);
        due("edge 0 in corner 0", x.liesIn(0, 1, 0, 0, 0), 0);
        due("edge 0 in plate 0", x.liesIn(0, 1, 0, 3, 0), 1);
        due("corner 7 in plate 0", x.liesIn(0, 0, 7, 3, 0), 0);
        due("plate 5 in the whole", x.liesIn(0, 3, 5, 7, 0), 1);
        due("not in itself", x.liesIn(0, 3, 0, 3, 0), 0);
        due("no kind", x.liesIn(0, 2, 0, 3, 0), BAD);
        due("no other kind", x.liesIn(0, 0, 0, 2, 0), BAD);
        due("not so many", x.liesIn(0, 0, 8, 3, 0), BAD);
        due("not so many others", x.liesIn(0, 0, 0, 3, 6), BAD);
        due("below 0", x.liesIn(0, 0, -1, 3, 0), BAD);
        due("below 0", x.liesIn(0, 0, 0, 3, -1), BAD);
        due("no body", x.liesIn(4, 0, 0, 3, 0), BAD);
        promise = 25;
        due("corners in a plate", x.within(0, 0, 3, 2), 4);
        due("edges in a plate", x.within(0, 1, 3, 2), 4);
        due("plates in the whole", x.within(0, 3, 7, 0), 6);
        due("corners in an edge", x.within(0, 0, 1, 3), 2);
        due("none in itself", x.within(0, 3, 3, 0), 0);
        due("none the other way round", x.within(0, 3, 0, 0), 0);
        due("no corner in a corner", x.within(0, 0, 0, 7), 0);
        due("no kind", x.within(0, 2, 3, 0), BAD);
        due("no other kind", x.within(0, 0, 2, 0), BAD);
        due("not so many", x.within(0, 0, 3, 6), BAD);
        due("below 0", x.within(0, 0, 3, -1), BAD);
        due("no body", x.within(4, 0, 3, 0), BAD);
    }

    private static void counts() {
        promise = 26;
        // The 24 cells' body, and the whole row of 3 3 with all ringed: the truncated octahedron.
        EvenBodies x = row(0, 2, 3, 3, 4);
        int[] cells24 = {24, 96, 96, 24, 1};
        for (int k = 0; k < 5; k++) {
            due("of 3 3 4 with 1 ringed, width " + k, x.count(0, k), cells24[k]);
        }
        put(x, 0, 7, 3, 3);
        int[] truncated = {24, 36, 14, 1};
        for (int k = 0; k < 4; k++) {
            due("of 3 3 with all ringed, width " + k, x.count(0, k), truncated[k]);
        }
        due("width 4", x.count(0, 4), BAD);
        due("width -1", x.count(0, -1), BAD);
        due("no body", x.count(4, 0), BAD);
        promise = 27;
        due("of three", x.law(0), 2);
        due("of two", row(0, 3, 5).law(0), 0);
        due("of one", new EvenBodies().law(0), 2);
        due("of four", row(0, 15, 3, 3, 3).law(0), 0);
        due("of a flat one of three mirrors", row(0, 1, 6, 2).law(0), 1);
        due("of a line alone of three mirrors", row(0, 4, 6, 2).law(0), 1);
        due("no body", x.law(-1), BAD);
    }

    private static void ways() {
        EvenBodies x = row(0, 1, 4, 3);
        promise = 28;
        due("mirror 0 moves corner 0", x.moves(0, 1, 0), 1);
        due("and back", x.moves(0, 1, 1), 0);
        due("mirror 2 moves it not", x.moves(0, 3, 0), 0);
        due("the farthest element, the farthest corner", x.moves(0, 47, 0), 7);
        due("not so many elements", x.moves(0, 48, 0), BAD);
        due("not so many corners", x.moves(0, 0, 8), BAD);
        due("below 0", x.moves(0, -1, 0), BAD);
        due("below 0", x.moves(0, 0, -1), BAD);
        promise = 29;
        due("of the cube", x.degree(0, 7), 3);
        due("of the octahedron", row(0, 4, 4, 3).degree(0, 0), 4);
        due("of the icosahedron", row(0, 1, 3, 5).degree(0, 11), 5);
        due("of a line", new EvenBodies().degree(0, 1), 1);
        due("not so many", x.degree(0, 8), BAD);
        due("below 0", x.degree(0, -1), BAD);
        promise = 30;
        due("to itself", x.far(0, 5, 5), 0);
        due("to its farthest", x.far(0, 0, 7), 3);
        due("back", x.far(0, 7, 0), 3);
        due("not so many", x.far(0, 8, 0), BAD);
        due("not so many", x.far(0, 0, 8), BAD);
        due("below 0", x.far(0, -1, 0), BAD);
        due("below 0", x.far(0, 0, -1), BAD);
        promise = 31;
        int[] icosahedron = {1, 5, 5, 1, 0};
        for (int k = 0; k < icosahedron.length; k++) {
            due("of the icosahedron", row(0, 1, 3, 5).layer(0, k), icosahedron[k]);
        }
        due("far beyond", x.layer(0, HIGH), 0);
        due("below 0", x.layer(0, -1), BAD);
        due("no body", x.layer(4, 0), BAD);
        promise = 32;
        due("of none to itself", x.ways(0, 3, 3, 0), 1);
        due("of none to another", x.ways(0, 3, 4, 0), 0);
        due("of 2", x.ways(0, 3, 3, 2), 3);
        // On the cube n steps lead back in (3^n + 3) / 4 ways, if n is even.
        due("of 12", x.ways(0, 2, 2, 12), (531441L + 3) / 4);
        due("of 11", x.ways(0, 2, 2, 11), 0);
        due("of 12 on the 24 cells' body", total(row(0, 2, 3, 3, 4), 24, 12), 68719476736L);
        due("n -1", x.ways(0, 0, 0, -1), BAD);
        due("n 13", x.ways(0, 0, 0, 13), BAD);
        due("not so many", x.ways(0, 8, 0, 1), BAD);
        due("not so many", x.ways(0, 0, 8, 1), BAD);
        due("below 0", x.ways(0, -1, 0, 1), BAD);
        due("below 0", x.ways(0, 0, -1, 1), BAD);
        promise = 33;
        due("the cube", x.coloured(0), 1);
        due("the octahedron", row(0, 4, 4, 3).coloured(0), 0);
        due("five corners", row(0, 1, 5).coloured(0), 0);
        due("ten corners", row(0, 3, 5).coloured(0), 1);
        due("20 corners of 3 5", row(0, 4, 3, 5).coloured(0), 0);
        due("all ringed", row(0, 7, 3, 5).coloured(0), 1);
        due("no body", x.coloured(4), BAD);
    }

    private static long total(EvenBodies x, int corners, int n) {
        long sum = 0;
        for (int c = 0; c < corners; c++) {
            sum += x.ways(0, 5, c, n);
        }
        return sum;
    }

    private static void round() {
        promise = 34;
        dueRound("cube", row(0, 1, 4, 3), 4, 4, 4);
        dueRound("octahedron", row(0, 4, 4, 3), 3, 3, 3, 3);
        dueRound("icosahedron", row(0, 1, 3, 5), 3, 3, 3, 3, 3);
        dueRound("cuboctahedron", row(0, 2, 4, 3), 3, 4, 3, 4);
        dueRound("icosidodecahedron", row(0, 2, 3, 5), 3, 5, 3, 5);
        dueRound("small rhomb of 3 5", row(0, 5, 3, 5), 3, 4, 5, 4);
        dueRound("great rhomb of 3 5", row(0, 7, 3, 5), 4, 6, 10);
        dueRound("truncated tetrahedron", row(0, 3, 3, 3), 3, 6, 6);
        dueRound("prism", row(0, 5, 5, 2), 4, 4, 5);
        dueRound("prism of twelve", row(0, 7, 6, 2), 4, 4, 12);
        dueRound("flat", row(0, 1, 5, 2), 5);
        dueRound("flat, twice", row(0, 3, 5, 2), 10);
        dueRound("flat, square", row(0, 3, 2, 2), 4);
        dueRound("line", row(0, 4, 5, 2));
        EvenBodies x = row(0, 1, 4, 3);
        due("i below NONE", x.round(0, -2), BAD);
        due("far beyond", x.round(0, HIGH), NONE);
        due("no body", x.round(4, 0), BAD);
    }

    private static void dueRound(String what, EvenBodies x, int... sizes) {
        due(what + ", how many", x.round(0, NONE), sizes.length);
        for (int i = 0; i < sizes.length; i++) {
            due(what + ", size " + i, x.round(0, i), sizes[i]);
        }
        due(what + ", no more", x.round(0, sizes.length), NONE);
    }

    private static void likeness() {
        promise = 35;
        EvenBodies x = row(0, 2, 3, 3);
        put(x, 1, 4, 4, 3);
        due("two octahedra", x.alike(0, 1), 1);
        due("the other way", x.alike(1, 0), 1);
        put(x, 2, 7, 2, 2);
        put(x, 3, 1, 4, 3);
        due("two cubes", x.alike(2, 3), 1);
        put(x, 3, 5, 4, 2);
        due("a cube and a prism", x.alike(2, 3), 1);
        put(x, 0, 7, 3, 3);
        put(x, 1, 6, 4, 3);
        due("two truncated octahedra", x.alike(0, 1), 1);
        // Both have 24 corners, and three plates at each.
        put(x, 1, 3, 4, 3);
        due("truncated octahedron and cube", x.alike(0, 1), 0);
        put(x, 0, 5, 3, 3);
        put(x, 1, 2, 4, 3);
        due("two cuboctahedra", x.alike(0, 1), 1);
        put(x, 0, 1, 6, 2);
        put(x, 1, 3, 3, 2);
        due("two flat ones", x.alike(0, 1), 1);
        put(x, 1, 3, 5, 2);
        due("flat ones of 6 and 10", x.alike(0, 1), 0);
        put(x, 0, 4, 6, 2);
        put(x, 1, 1, 2, 2);
        due("two lines", x.alike(0, 1), 1);
        due("with itself", x.alike(1, 1), 1);
        due("no body", x.alike(4, 0), BAD);
        due("no other body", x.alike(0, -1), BAD);
        promise = 36;
        due("of 3 3", row(0, 1, 3, 3).unlike(0), 5);
        due("of 3 4", row(0, 1, 3, 4).unlike(0), 7);
        due("of 3 5", row(0, 7, 5, 3).unlike(0), 7);
        // The prism of four is the cube, but the cube is no other body of these.
        due("of 4 2", row(0, 1, 4, 2).unlike(0), 5);
        due("of 2 2", row(0, 1, 2, 2).unlike(0), 3);
        EvenBodies y = row(0, 2, 3, 3);
        y.unlike(0);
        due("it changes nothing", y.about(0, 1, 0), 2);
        due("no body", y.unlike(4), BAD);
    }

    private static void snubs() {
        EvenBodies x = row(0, 1, 4, 3);
        promise = 37;
        due("corners", x.snub(0, 0), 24);
        due("edges", x.snub(0, 1), 60);
        due("plates", x.snub(0, 2), 38);
        EvenBodies prism = row(0, 1, 6, 2);
        due("corners of 6 2", prism.snub(0, 0), 12);
        due("edges of 6 2", prism.snub(0, 1), 24);
        due("plates of 6 2", prism.snub(0, 2), 14);
        due("what 3", x.snub(0, 3), BAD);
        due("what -1", x.snub(0, -1), BAD);
        due("no body", x.snub(4, 0), BAD);
        promise = 38;
        due("of 4 3", x.snubLaw(0), 2);
        due("of 6 2", prism.snubLaw(0), 2);
        due("no body", x.snubLaw(4), BAD);
        promise = 39;
        due("of 4 3", x.snubDegree(0, 23), 5);
        due("of 6 2", prism.snubDegree(0, 0), 4);
        due("of 2 2", row(0, 1, 2, 2).snubDegree(0, 3), 3);
        due("not so many", x.snubDegree(0, 24), BAD);
        due("below 0", x.snubDegree(0, -1), BAD);
        promise = 40;
        due("to itself", x.snubFar(0, 9, 9), 0);
        // Corner 1 is the word 01, one edge from the empty one; corners go by half ones alone.
        due("to the next", x.snubFar(0, 0, 1), 1);
        due("back", x.snubFar(0, 1, 0), 1);
        due("the farthest", x.snubFar(0, 23, 0), 4);
        // The icosahedron: each corner has one that is three edges off.
        EvenBodies icosahedron = row(0, 1, 3, 3);
        for (int c = 0; c < 12; c++) {
            int[] layers = new int[4];
            for (int d = 0; d < 12; d++) {
                layers[Math.floorMod(icosahedron.snubFar(0, c, d), 4)]++;
            }
            due("one far off", layers[3], 1);
            due("five near", layers[1], 5);
        }
        due("not so many", x.snubFar(0, 24, 0), BAD);
        due("not so many", x.snubFar(0, 0, 24), BAD);
        due("below 0", x.snubFar(0, -1, 0), BAD);
        due("below 0", x.snubFar(0, 0, -1), BAD);
        promise = 41;
        due("of 3", x.snubFaces(0, 3), 32);
        due("of 4", x.snubFaces(0, 4), 6);
        due("of 5", x.snubFaces(0, 5), 0);
        due("of 2", x.snubFaces(0, 2), 0);
        due("of 6", prism.snubFaces(0, 6), 2);
        due("far beyond", x.snubFaces(0, HIGH), 0);
        due("below 2", x.snubFaces(0, 1), BAD);
        due("no body", x.snubFaces(4, 3), BAD);
    }

    private static void duals() {
        EvenBodies x = row(0, 2, 4, 3);
        promise = 42;
        due("corners", x.dual(0, 0), 14);
        due("joins", x.dual(0, 1), 24);
        due("faces", x.dual(0, 2), 12);
        due("of a flat one, corners", row(0, 1, 5, 2).dual(0, 0), 1);
        due("of a flat one, joins", row(0, 1, 5, 2).dual(0, 1), 0);
        due("of a flat one, faces", row(0, 1, 5, 2).dual(0, 2), 5);
        due("of a line, corners", row(0, 4, 5, 2).dual(0, 0), 0);
        due("of a line, faces", row(0, 4, 5, 2).dual(0, 2), 2);
        due("what 3", x.dual(0, 3), BAD);
        due("what -1", x.dual(0, -1), BAD);
        due("no body", x.dual(4, 0), BAD);
        promise = 43;
        due("of 3", x.dualDegree(0, 3), 8);
        due("of 4", x.dualDegree(0, 4), 6);
        due("of 5", x.dualDegree(0, 5), 0);
        due("of 0", x.dualDegree(0, 0), 0);
        due("of a flat one, of 0", row(0, 1, 5, 2).dualDegree(0, 0), 1);
        due("below 0", x.dualDegree(0, -1), BAD);
        due("no body", x.dualDegree(4, 3), BAD);
        promise = 44;
        due("of the cuboctahedron", x.dualFar(0), 4);
        due("of the cube", row(0, 1, 4, 3).dualFar(0), 2);
        due("of the octahedron", row(0, 4, 4, 3).dualFar(0), 3);
        due("of the tetrahedron", row(0, 1, 3, 3).dualFar(0), 1);
        due("of a flat one", row(0, 1, 5, 2).dualFar(0), 0);
        due("of a line", row(0, 4, 5, 2).dualFar(0), 0);
        due("no body", x.dualFar(4), BAD);
    }

    private static void digest() {
        promise = 45;
        long h = 271;
        for (int b = 0; b < 4; b++) {
            h = 31 * (31 * (31 * h + 1) + 1) + 2;
        }
        EvenBodies x = new EvenBodies();
        due("of a new object", x.digest(), h);
        put(x, 3, 6, 3, 6);
        put(x, 1, 2, 5);
        h = 31 * (31 * (31 * 271L + 1) + 1) + 2;
        h = 31 * (31 * (31 * (31 * h + 2) + 5) + 2) + 10;
        h = 31 * (31 * (31 * h + 1) + 1) + 2;
        h = 31 * (31 * (31 * (31 * h + 3) + 3) + 2) + 6;
        h = 31 * (31 * h + 6) - 5;
        due("with a spent one", x.digest(), h);
    }

    /** What was asked before a change is not answered again after it. */
    private static void changes() {
        EvenBodies x = row(0, 1, 4, 3);
        promise = 4;
        askAll(x, "the cube", 48, 8, 3, 12, 24, 7, 3);
        x.ring(0, 4);
        askAll(x, "the octahedron", 48, 6, 2, 12, 24, 7, 4);
        promise = 3;
        x.angle(0, 0, 1, 3);
        askAll(x, "the tetrahedron", 24, 4, 1, 6, 12, 5, 3);
        promise = 5;
        put(x, 1, 1, 6, 2);
        x.ring(1, 5);
        askAll(x, "still the tetrahedron", 24, 4, 1, 6, 12, 5, 3);
        x.order(1, 201, 0);
        askAll(x, "the prism of six", 24, 12, 4, 18, 12, 5, 3);
        promise = 2;
        x.body(0, 3);
        askAll(x, "a line", 8, 2, 1, 0, 4, 3, 1);
        due("one mirror again", x.body(0, 1), 1);
        due("one mirror again", x.about(0, 0, 0), 1);
        due("one mirror again", x.size(0), 2);
    }

    private static void askAll(EvenBodies x, String what, int... answers) {
        due(what + ", elements", x.size(0), answers[0]);
        due(what + ", corners", x.count(0, 0), answers[1]);
        int most = 0;
        for (int c = 0; c < answers[1]; c++) {
            most = Math.max(most, x.far(0, 0, c));
        }
        due(what + ", how far", most, answers[2]);
        due(what + ", joins of the dual", x.dual(0, 1), answers[3]);
        due(what + ", corners of the snub", x.snub(0, 0), answers[4]);
        due(what + ", unlike ones", x.unlike(0), answers[5]);
        due(what + ", degree", x.degree(0, 0), answers[6]);
    }

    /** What is refused as spent, and what is bad before that. */
    private static void spent() {
        EvenBodies x = row(0, 1, 3, 6);
        put(x, 1, 1, 3, 3, 5);
        put(x, 2, 1, 4, 3);
        for (int b = 0; b < 2; b++) {
            due7to16(x, b);
            promise = 17;
            due("not spent", x.kinds(b, 1), 1);
            promise = 18;
            due("not spent", x.kind(b, 2, 0), 3);
            long[] got = {x.parts(b, 3), x.partOf(b, 3, 0), x.least(b, 3, 0), x.corners(b, 3, 0),
                x.cornerOf(b, 3, 0, 0), x.liesIn(b, 0, 0, 3, 0), x.within(b, 0, 3, 0), x.count(b, 0), x.law(b),
                x.moves(b, 0, 0), x.degree(b, 0), x.far(b, 0, 0), x.layer(b, 0), x.ways(b, 0, 0, 1), x.coloured(b),
                x.round(b, 0), x.alike(b, 2), x.unlike(b), x.snub(b, 0), x.snubLaw(b), x.snubDegree(b, 0),
                x.snubFar(b, 0, 0), x.snubFaces(b, 3), x.dual(b, 0), x.dualDegree(b, 3), x.dualFar(b)};
            long[] bad = {x.parts(b, 2), x.partOf(b, 3, -1), x.least(b, 3, -1), x.corners(b, 2, 0),
                x.cornerOf(b, 3, 0, -1), x.liesIn(b, 0, 0, 3, -1), x.within(b, 0, 2, 0), x.count(b, 5), BAD,
                x.moves(b, 0, -1), x.degree(b, -1), x.far(b, 0, -1), x.layer(b, -1), x.ways(b, 0, 0, 13), BAD,
                x.round(b, -2), x.alike(b, 4), BAD, x.snub(b, 3), BAD, x.snubDegree(b, -1),
                x.snubFar(b, 0, -1), x.snubFaces(b, 1), x.dual(b, 3), x.dualDegree(b, -1), BAD};
            for (int k = 0; k < got.length; k++) {
                promise = 19 + k;
                due("spent, body " + b, got[k], SPENT);
                due("bad before spent, body " + b, bad[k], BAD);
            }
        }
        promise = 35;
        due("the other one is spent", x.alike(2, 0), SPENT);
        promise = 7;
        x.angle(0, 1, 2, 5);
        due("whole again", x.size(0), 120);
    }

    private static void due7to16(EvenBodies x, int b) {
        long[] got = {x.size(b), x.length(b, 0), x.letter(b, 0, 0), x.element(b, 1), x.product(b, 0, 0),
            x.inverse(b, 0), x.turns(b, 0), x.classSize(b, 0), x.ofLength(b, 0), x.mirrors(b)};
        long[] bad = {BAD, x.length(b, -1), x.letter(b, 0, -1), x.element(b, 5), x.product(b, 0, -1),
            x.inverse(b, -1), x.turns(b, -1), x.classSize(b, -1), x.ofLength(b, -1), BAD};
        for (int k = 0; k < got.length; k++) {
            promise = 7 + k;
            due("spent, body " + b, got[k], SPENT);
            due("bad before spent, body " + b, bad[k], BAD);
        }
    }

    /** What is refused as NO, and what is bad before that. */
    private static void notThree() {
        EvenBodies x = row(0, 1, 5);
        put(x, 1, 1, 3, 3, 3);
        put(x, 2, 1, 4, 3);
        for (int b = 0; b < 2; b++) {
            long[] got = {x.round(b, 0), x.alike(b, 2), x.unlike(b), x.snub(b, 0), x.snubLaw(b), x.snubDegree(b, 0),
                x.snubFar(b, 0, 0), x.snubFaces(b, 3), x.dual(b, 0), x.dualDegree(b, 3), x.dualFar(b)};
            long[] bad = {x.round(b, -2), x.alike(b, 4), BAD, x.snub(b, 3), BAD, x.snubDegree(b, -1),
                x.snubFar(b, 0, -1), x.snubFaces(b, 1), x.dual(b, 3), x.dualDegree(b, -1), BAD};
            for (int k = 0; k < got.length; k++) {
                promise = 34 + k;
                due("not three mirrors", got[k], NO);
                due("bad before that", bad[k], BAD);
            }
        }
        promise = 35;
        due("the other one has not three", x.alike(2, 1), NO);
        noSnub(x, 0);
        noSnub(x, 1);
        noSnub(new EvenBodies(), 0);
    }

    /** Without a snub no number of its corners is too high, and NO stands against all that are not below 0. */
    private static void noSnub(EvenBodies x, int b) {
        int[] corners = {0, 1, x.size(b) / 2 - 1, x.size(b) / 2, x.size(b), HIGH};
        for (int corner : corners) {
            promise = 39;
            due("no snub, corner " + corner, x.snubDegree(b, corner), NO);
            promise = 40;
            due("no snub, from " + corner, x.snubFar(b, corner, 0), NO);
            due("no snub, to " + corner, x.snubFar(b, 0, corner), NO);
            due("no snub, below 0, from " + corner, x.snubFar(b, corner, -1), BAD);
            due("no snub, below 0, to " + corner, x.snubFar(b, -1, corner), BAD);
        }
        promise = 39;
        due("no snub, below 0", x.snubDegree(b, -1), BAD);
        due("no snub, no body", x.snubDegree(4, 0), BAD);
        promise = 40;
        due("no snub, no body", x.snubFar(-1, 0, 0), BAD);
    }
}
