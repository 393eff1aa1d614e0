import java.util.Arrays;

/**
 * Even bodies: bodies alike at every corner, made by mirrors from one point, and the groups of their mirrors.
 * What each call answers is told by the project's document; README.md says how this file is laid out.
 */
public final class EvenBodies {
    public static final int NONE = -1, BAD = -2, NO = -3, SPENT = -5;

    private static final int BODIES = 4;
    private static final int MOST_MIRRORS = 4;
    private static final int SETS = 1 << MOST_MIRRORS;
    private static final int LEAST_ANGLE = 2;
    private static final int MOST_ANGLE = 6;
    private static final int MOST_ELEMENTS = 500;
    private static final int MOST_STEPS = 12;
    private static final int BASE = 10;

    /** Rows round a corner, snubs and duals are told of bodies with just so many mirrors. */
    private static final int THREE = 3;
    private static final int SETS_OF_THREE = 1 << THREE;
    /** The greatest whole group of three mirrors has 120 elements; no body of it has more of these. */
    private static final int MOST_EDGES = 180;
    private static final int MOST_PLATES = 62;
    private static final int MOST_AROUND = 5;

    /** What a test of a call's numbers answers when there is nothing to refuse. */
    private static final int FINE = 0;

    private static final long DIGEST_START = 271;
    private static final long DIGEST_FACTOR = 31;

    private final Body[] bodies = new Body[BODIES];
    /** A body without a number, on which unlike() tries all sets of ringed mirrors. */
    private final Body trial = new Body();
    /** Where order() puts a body together, as the one that becomes it may be the one that it comes of. */
    private final Diagram ordered = new Diagram();
    private final long[] likenesses = new long[SETS_OF_THREE];

    public EvenBodies() {
        for (int b = 0; b < BODIES; b++) {
            bodies[b] = new Body();
        }
    }

    // ---- mirrors

    public int body(int b, int r) {
        if (isNoBody(b) || r < 1 || r > MOST_MIRRORS) {
            return BAD;
        }
        bodies[b].diagram.begin(r);
        bodies[b].forgetGroup();
        return 1;
    }

    public int angle(int b, int i, int j, int m) {
        if (isNoMirror(b, i) || isNoMirror(b, j) || i == j || m < LEAST_ANGLE || m > MOST_ANGLE) {
            return BAD;
        }
        int before = bodies[b].diagram.angleOf(i, j);
        if (before != m) {
            bodies[b].diagram.setAngle(i, j, m);
            bodies[b].forgetGroup();
        }
        return before;
    }

    public int ring(int b, int set) {
        if (isNoBody(b) || set < 1 || set >= bodies[b].diagram.sets()) {
            return BAD;
        }
        return bodies[b].ringAnew(set);
    }

    public int order(int b, int order, int to) {
        if (isNoBody(b) || isNoBody(to) || !bodies[b].diagram.isOrder(order)) {
            return BAD;
        }
        ordered.takeInOrder(bodies[b].diagram, order);
        bodies[to].become(ordered);
        return 1;
    }

    public int about(int b, int what, int i) {
        if (isNoBody(b) || what < 0 || what > 2) {
            return BAD;
        }
        if (what == 0) {
            return bodies[b].diagram.mirrors;
        }
        if (what == 1) {
            return bodies[b].diagram.ringed;
        }
        return isNoMirror(b, i) ? BAD : bodies[b].diagram.joinedTo(i);
    }

    // ---- the group

    public int size(int b) {
        int refusal = refusal(b, false);
        return refusal != FINE ? refusal : bodies[b].theGroup().size;
    }

    public int length(int b, int g) {
        int refusal = refusalOfElements(b, g, g);
        return refusal != FINE ? refusal : bodies[b].theGroup().lengthOf(g);
    }

    public int letter(int b, int g, int i) {
        if (i < 0) {
            return BAD;
        }
        int refusal = refusalOfElements(b, g, g);
        return refusal != FINE ? refusal : bodies[b].theGroup().letterOf(g, i);
    }

    public int element(int b, int word) {
        int refusal = refusal(b, isNoWord(b, word));
        return refusal != FINE ? refusal : bodies[b].theGroup().elementOf(word);
    }

    public int product(int b, int g, int h) {
        int refusal = refusalOfElements(b, g, h);
        return refusal != FINE ? refusal : bodies[b].theGroup().productOf(g, h);
    }

    public int inverse(int b, int g) {
        int refusal = refusalOfElements(b, g, g);
        return refusal != FINE ? refusal : bodies[b].theGroup().inverseOf(g);
    }

    public int turns(int b, int g) {
        int refusal = refusalOfElements(b, g, g);
        return refusal != FINE ? refusal : bodies[b].theGroup().turnsOf(g);
    }

    public int classSize(int b, int g) {
        int refusal = refusalOfElements(b, g, g);
        return refusal != FINE ? refusal : bodies[b].theGroup().countClasses(g, 1);
    }

    public int ofLength(int b, int length) {
        int refusal = refusal(b, length < 0);
        return refusal != FINE ? refusal : bodies[b].theGroup().countLength(length);
    }

    public int mirrors(int b) {
        int refusal = refusal(b, false);
        // Mirrors themselves are the words of one letter: the elements behind the empty word.
        return refusal != FINE ? refusal : bodies[b].theGroup().countClasses(1, bodies[b].diagram.mirrors);
    }

    // ---- parts

    public int kinds(int b, int width) {
        return isNoWidth(b, width) ? BAD : bodies[b].diagram.countKinds(width);
    }

    public int kind(int b, int width, int i) {
        return isNoWidth(b, width) || i < 0 ? BAD : bodies[b].diagram.kindAt(width, i);
    }

    public int parts(int b, int kind) {
        int refusal = refusal(b, isNoKind(b, kind));
        return refusal != FINE ? refusal : bodies[b].partsOf(kind).countOf(kind);
    }

    public int partOf(int b, int kind, int g) {
        if (isNoKind(b, kind)) {
            return BAD;
        }
        int refusal = refusalOfElements(b, g, g);
        return refusal != FINE ? refusal : bodies[b].partsOf(kind).partWith(kind, g);
    }

    public int least(int b, int kind, int part) {
        int refusal = refusalOfPart(b, kind, part);
        return refusal != FINE ? refusal : bodies[b].partsOf(kind).leastOf(kind, part);
    }

    public int corners(int b, int kind, int part) {
        int refusal = refusalOfPart(b, kind, part);
        return refusal != FINE ? refusal : bodies[b].partsOf(0).markMeeting(0, kind, part);
    }

    public int cornerOf(int b, int kind, int part, int i) {
        if (i < 0) {
            return BAD;
        }
        int refusal = refusalOfPart(b, kind, part);
        return refusal != FINE ? refusal : bodies[b].partsOf(0).cornerAt(kind, part, i);
    }

    public int liesIn(int b, int kind, int part, int other, int part2) {
        if (isNoKind(b, kind) || part < 0 || isNoKind(b, other) || part2 < 0) {
            return BAD;
        }
        int refusal = refusalOfPart(b, kind, part);
        if (refusal == FINE) {
            refusal = refusalOfPart(b, other, part2);
        }
        if (refusal != FINE) {
            return refusal;
        }
        return isInside(kind, other) && bodies[b].partsOf(kind).meet(kind, part, other, part2) ? 1 : 0;
    }

    public int within(int b, int kind, int other, int part2) {
        if (isNoKind(b, kind)) {
            return BAD;
        }
        int refusal = refusalOfPart(b, other, part2);
        if (refusal != FINE) {
            return refusal;
        }
        return isInside(kind, other) ? bodies[b].partsOf(kind).markMeeting(kind, other, part2) : 0;
    }

    public int count(int b, int width) {
        int refusal = refusal(b, isNoWidth(b, width));
        return refusal != FINE ? refusal : bodies[b].partsOf(0).countOfWidth(width);
    }

    public int law(int b) {
        int refusal = refusal(b, false);
        return refusal != FINE ? refusal : bodies[b].partsOf(0).sumByTurns();
    }

    // ---- corners, ways

    public int moves(int b, int g, int corner) {
        if (corner < 0) {
            return BAD;
        }
        int refusal = refusalOfElements(b, g, g);
        if (refusal == FINE) {
            refusal = refusalOfCorners(b, corner, corner);
        }
        return refusal != FINE ? refusal : bodies[b].theCorners().moved(g, corner);
    }

    public int degree(int b, int corner) {
        int refusal = refusalOfCorners(b, corner, corner);
        return refusal != FINE ? refusal : bodies[b].theCorners().joins;
    }

    public int far(int b, int corner, int other) {
        int refusal = refusalOfCorners(b, corner, other);
        return refusal != FINE ? refusal : bodies[b].theCorners().stepsBetween(corner, other);
    }

    public int layer(int b, int far) {
        int refusal = refusal(b, far < 0);
        return refusal != FINE ? refusal : bodies[b].theCorners().countAt(far);
    }

    public long ways(int b, int corner, int other, int n) {
        if (n < 0 || n > MOST_STEPS) {
            return BAD;
        }
        int refusal = refusalOfCorners(b, corner, other);
        return refusal != FINE ? refusal : bodies[b].theCorners().countWays(corner, other, n);
    }

    public int coloured(int b) {
        int refusal = refusal(b, false);
        if (refusal != FINE) {
            return refusal;
        }
        return bodies[b].theCorners().hasTwoColours() ? 1 : 0;
    }

    public int round(int b, int i) {
        int refusal = refusalOfThree(b, i < NONE);
        if (refusal != FINE) {
            return refusal;
        }
        Plates plates = bodies[b].thePlates();
        return i == NONE ? plates.aroundCount : plates.sizeAround(i);
    }

    public int alike(int b, int other) {
        if (isNoBody(b) || isNoBody(other)) {
            return BAD;
        }
        if (bodies[b].theGroup().isSpent || bodies[other].theGroup().isSpent) {
            return SPENT;
        }
        if (bodies[b].diagram.mirrors != THREE || bodies[other].diagram.mirrors != THREE) {
            return NO;
        }
        return bodies[b].thePlates().likeness() == bodies[other].thePlates().likeness() ? 1 : 0;
    }

    public int unlike(int b) {
        int refusal = refusalOfThree(b, false);
        if (refusal != FINE) {
            return refusal;
        }
        if (bodies[b].unlikeCount == 0) {
            bodies[b].unlikeCount = countUnlike(bodies[b].diagram);
        }
        return bodies[b].unlikeCount;
    }

    // ---- snubs, duals

    public int snub(int b, int what) {
        int refusal = refusalOfThree(b, what < 0 || what > 2);
        return refusal != FINE ? refusal : snubCount(bodies[b].theSnub(), what);
    }

    public int snubLaw(int b) {
        int refusal = refusalOfThree(b, false);
        if (refusal != FINE) {
            return refusal;
        }
        Snub snub = bodies[b].theSnub();
        return snub.corners - snub.countEdges() + snub.countPlates();
    }

    public int snubDegree(int b, int corner) {
        int refusal = refusalOfHalves(b, corner, corner);
        return refusal != FINE ? refusal : bodies[b].theSnub().joins;
    }

    public int snubFar(int b, int corner, int other) {
        int refusal = refusalOfHalves(b, corner, other);
        return refusal != FINE ? refusal : bodies[b].theSnub().stepsBetween(corner, other);
    }

    public int snubFaces(int b, int size) {
        int refusal = refusalOfThree(b, size < 2);
        return refusal != FINE ? refusal : bodies[b].theSnub().countPlatesOf(size);
    }

    public int dual(int b, int what) {
        int refusal = refusalOfThree(b, what < 0 || what > 2);
        if (refusal != FINE) {
            return refusal;
        }
        if (what == 2) {
            return bodies[b].partsOf(0).countOf(0);
        }
        Plates plates = bodies[b].thePlates();
        return what == 0 ? plates.plateCount : plates.countJoins();
    }

    public int dualDegree(int b, int joins) {
        int refusal = refusalOfThree(b, joins < 0);
        return refusal != FINE ? refusal : bodies[b].thePlates().countWithJoins(joins);
    }

    public int dualFar(int b) {
        int refusal = refusalOfThree(b, false);
        return refusal != FINE ? refusal : bodies[b].thePlates().widestWay();
    }

    public long digest() {
        long h = DIGEST_START;
        for (int b = 0; b < BODIES; b++) {
            Diagram diagram = bodies[b].diagram;
            h = DIGEST_FACTOR * h + diagram.mirrors;
            for (int i = 0; i < diagram.mirrors; i++) {
                for (int j = i + 1; j < diagram.mirrors; j++) {
                    h = DIGEST_FACTOR * h + diagram.angleOf(i, j);
                }
            }
            h = DIGEST_FACTOR * h + diagram.ringed;
            h = DIGEST_FACTOR * h + size(b);
        }
        return h;
    }

    // ---- what is refused

    private static boolean isNoBody(int b) {
        return b < 0 || b >= BODIES;
    }

    private boolean isNoMirror(int b, int i) {
        return isNoBody(b) || i < 0 || i >= bodies[b].diagram.mirrors;
    }

    private boolean isNoWidth(int b, int width) {
        return isNoBody(b) || width < 0 || width > bodies[b].diagram.mirrors;
    }

    private boolean isNoKind(int b, int kind) {
        return isNoBody(b) || !bodies[b].diagram.isKind(kind);
    }

    private boolean isNoWord(int b, int word) {
        return isNoBody(b) || !bodies[b].diagram.isWord(word);
    }

    /** isBad tells of all the numbers beside b that can be judged without the group. */
    private int refusal(int b, boolean isBad) {
        if (isNoBody(b) || isBad) {
            return BAD;
        }
        return bodies[b].theGroup().isSpent ? SPENT : FINE;
    }

    private int refusalOfElements(int b, int g, int h) {
        int refusal = refusal(b, g < 0 || h < 0);
        if (refusal != FINE) {
            return refusal;
        }
        int size = bodies[b].theGroup().size;
        return g < size && h < size ? FINE : BAD;
    }

    private int refusalOfPart(int b, int kind, int part) {
        int refusal = refusal(b, isNoKind(b, kind) || part < 0);
        if (refusal != FINE) {
            return refusal;
        }
        return part < bodies[b].partsOf(kind).countOf(kind) ? FINE : BAD;
    }

    private int refusalOfCorners(int b, int corner, int other) {
        int refusal = refusal(b, corner < 0 || other < 0);
        if (refusal != FINE) {
            return refusal;
        }
        int corners = bodies[b].partsOf(0).countOf(0);
        return corner < corners && other < corners ? FINE : BAD;
    }

    private int refusalOfThree(int b, boolean isBad) {
        int refusal = refusal(b, isBad);
        if (refusal != FINE) {
            return refusal;
        }
        return bodies[b].diagram.mirrors == THREE ? FINE : NO;
    }

    /** Without three mirrors there is no snub, and so no number of its corners that one could be too high for. */
    private int refusalOfHalves(int b, int corner, int other) {
        int refusal = refusalOfThree(b, corner < 0 || other < 0);
        if (refusal != FINE) {
            return refusal;
        }
        int halves = bodies[b].theGroup().size / 2;
        return corner < halves && other < halves ? FINE : BAD;
    }

    // ---- helpers of the calls

    private static boolean isInside(int set, int other) {
        return set != other && (set & other) == set;
    }

    private static int snubCount(Snub snub, int what) {
        if (what == 0) {
            return snub.corners;
        }
        return what == 1 ? snub.countEdges() : snub.countPlates();
    }

    private int countUnlike(Diagram diagram) {
        trial.become(diagram);
        int unlike = 0;
        for (int set = 1; set < SETS_OF_THREE; set++) {
            trial.ringAnew(set);
            long likeness = trial.thePlates().likeness();
            boolean isNew = true;
            for (int k = 0; k < unlike; k++) {
                isNew = isNew && likenesses[k] != likeness;
            }
            if (isNew) {
                likenesses[unlike] = likeness;
                unlike++;
            }
        }
        return unlike;
    }

    /** A body: its mirrors, and what has been made of them, kept till they change. */
    private static final class Body {
        final Diagram diagram = new Diagram();
        /** How many unlike bodies come of the mirrors; 0, if they are not counted. */
        int unlikeCount;
        private Group group;
        private Parts parts;
        private Corners corners;
        private Plates plates;
        private Snub snub;
        private boolean groupStands;
        private boolean partsStand;
        private boolean cornersStand;
        private boolean platesStand;
        private boolean snubStands;

        void forgetGroup() {
            groupStands = false;
            snubStands = false;
            unlikeCount = 0;
            forgetParts();
        }

        void forgetParts() {
            partsStand = false;
            cornersStand = false;
            platesStand = false;
        }

        void become(Diagram other) {
            diagram.take(other);
            forgetGroup();
        }

        int ringAnew(int set) {
            int before = diagram.ringed;
            if (before != set) {
                diagram.ringed = set;
                forgetParts();
            }
            return before;
        }

        // The tables are big, and most objects use few bodies: each is made when it is first asked for.

        Group theGroup() {
            if (group == null) {
                group = new Group(diagram);
            }
            if (!groupStands) {
                group.build();
                groupStands = true;
            }
            return group;
        }

        /** The parts, those of one kind at least being made. */
        Parts partsOf(int kind) {
            if (parts == null) {
                parts = new Parts(diagram, theGroup());
            }
            if (!partsStand) {
                theGroup();
                parts.begin();
                partsStand = true;
            }
            parts.make(kind);
            return parts;
        }

        Corners theCorners() {
            if (corners == null) {
                corners = new Corners(diagram, theGroup(), partsOf(0));
            }
            if (!cornersStand) {
                partsOf(0);
                corners.build();
                cornersStand = true;
            }
            return corners;
        }

        Plates thePlates() {
            if (plates == null) {
                plates = new Plates(diagram, theGroup(), partsOf(0));
            }
            if (!platesStand) {
                for (int set = 0; set < SETS_OF_THREE; set++) {
                    if (diagram.isKind(set)) {
                        partsOf(set);
                    }
                }
                plates.build();
                platesStand = true;
            }
            return plates;
        }

        Snub theSnub() {
            if (snub == null) {
                snub = new Snub(diagram, theGroup());
            }
            if (!snubStands) {
                theGroup();
                snub.build();
                snubStands = true;
            }
            return snub;
        }
    }

    /** The mirrors of a body, their angles, which are ringed, and the kinds that come of these alone. */
    private static final class Diagram {
        int mirrors;
        int ringed;
        private final int[] angles = new int[MOST_MIRRORS * MOST_MIRRORS];
        private final int[] joined = new int[MOST_MIRRORS];

        Diagram() {
            begin(1);
        }

        void begin(int r) {
            mirrors = r;
            ringed = 1;
            Arrays.fill(angles, LEAST_ANGLE);
            Arrays.fill(joined, 0);
        }

        void take(Diagram other) {
            mirrors = other.mirrors;
            ringed = other.ringed;
            System.arraycopy(other.angles, 0, angles, 0, angles.length);
            System.arraycopy(other.joined, 0, joined, 0, joined.length);
        }

        int sets() {
            return 1 << mirrors;
        }

        int angleOf(int i, int j) {
            return angles[i * MOST_MIRRORS + j];
        }

        void setAngle(int i, int j, int m) {
            angles[i * MOST_MIRRORS + j] = m;
            angles[j * MOST_MIRRORS + i] = m;
            int join = m > 2 ? 1 : 0;
            joined[i] = joined[i] & ~(1 << j) | join << j;
            joined[j] = joined[j] & ~(1 << i) | join << i;
        }

        /** Whether the last digits, one for each mirror, name each mirror once, and nothing is before them. */
        boolean isOrder(int order) {
            if (order < 0) {
                return false;
            }
            int rest = order;
            int named = 0;
            for (int i = 0; i < mirrors; i++) {
                named |= 1 << (rest % BASE);
                rest /= BASE;
            }
            return rest == 0 && named == sets() - 1;
        }

        /** Takes an order that isOrder() of the other one has found right. */
        void takeInOrder(Diagram other, int order) {
            begin(other.mirrors);
            ringed = 0;
            int later = order;
            for (int i = mirrors - 1; i >= 0; i--) {
                int from = later % BASE;
                later /= BASE;
                ringed |= (other.ringed >> from & 1) << i;
                int earlier = later;
                for (int j = i - 1; j >= 0; j--) {
                    setAngle(i, j, other.angleOf(from, earlier % BASE));
                    earlier /= BASE;
                }
            }
        }

        boolean isWord(int word) {
            boolean isGood = word >= 0;
            for (int rest = word; rest > 0; rest /= BASE) {
                int digit = rest % BASE;
                isGood = isGood && digit >= 1 && digit <= mirrors;
            }
            return isGood;
        }

        int joinedTo(int i) {
            return joined[i];
        }

        private int joinedToAny(int set) {
            int all = 0;
            for (int i = 0; i < mirrors; i++) {
                if ((set >> i & 1) != 0) {
                    all |= joined[i];
                }
            }
            return all;
        }

        boolean isKind(int set) {
            if (set < 0 || set >= sets()) {
                return false;
            }
            int reached = set & ringed;
            for (int step = 1; step < mirrors; step++) {
                reached |= set & joinedToAny(reached);
            }
            return reached == set;
        }

        /** The mirrors whose words make the stay of a kind. */
        int stayOf(int kind) {
            int moved = kind | ringed | joinedToAny(kind);
            return kind | (sets() - 1 & ~moved);
        }

        int countKinds(int width) {
            int count = 0;
            for (int set = 0; set < sets(); set++) {
                if (Integer.bitCount(set) == width && isKind(set)) {
                    count++;
                }
            }
            return count;
        }

        int kindAt(int width, int i) {
            int before = 0;
            for (int set = 0; set < sets(); set++) {
                if (Integer.bitCount(set) == width && isKind(set)) {
                    if (before == i) {
                        return set;
                    }
                    before++;
                }
            }
            return NONE;
        }
    }

    /**
     * The group, its elements numbered by their least words. Each is kept as its least word's last letter behind
     * the element of the rest, which is least too; so going through elements by number and putting each letter
     * behind finds all in their order.
     */
    private static final class Group {
        int size;
        boolean isSpent;
        private final Diagram diagram;
        private final int[] lengths = new int[MOST_ELEMENTS];
        private final int[] before = new int[MOST_ELEMENTS];
        private final int[] last = new int[MOST_ELEMENTS];
        /** The mirrors, as bits, that behind an element make it shorter. */
        private final int[] shortening = new int[MOST_ELEMENTS];
        private final int[] inverses = new int[MOST_ELEMENTS];
        /** Element g with mirror i behind it, and with mirror i ahead of it, at g * MOST_MIRRORS + i. */
        private final int[] behind = new int[MOST_ELEMENTS * MOST_MIRRORS];
        private final int[] ahead = new int[MOST_ELEMENTS * MOST_MIRRORS];
        private final int[] marks = new int[MOST_ELEMENTS];
        private final int[] queue = new int[MOST_ELEMENTS];

        Group(Diagram diagram) {
            this.diagram = diagram;
        }

        void build() {
            Arrays.fill(behind, NONE);
            size = 1;
            isSpent = false;
            lengths[0] = 0;
            shortening[0] = 0;
            for (int g = 0; g < size && g < MOST_ELEMENTS && !isSpent; g++) {
                for (int i = 0; i < diagram.mirrors && !isSpent; i++) {
                    if (behind[g * MOST_MIRRORS + i] == NONE) {
                        addBehind(g, i);
                    }
                }
            }
            if (!isSpent) {
                turnRound();
            }
        }

        /** A new element gets all its shorter neighbours at once: a neighbour that is missing is a longer one to come. */
        private void addBehind(int g, int i) {
            if (size >= MOST_ELEMENTS) {
                isSpent = true;
                return;
            }
            int h = size;
            size++;
            lengths[h] = lengths[g] + 1;
            before[h] = g;
            last[h] = i;
            shortening[h] = 0;
            link(g, i, h);
            for (int j = 0; j < diagram.mirrors; j++) {
                int other = j == i ? NONE : acrossPair(g, i, j, diagram.angleOf(i, j));
                if (other != NONE) {
                    link(other, j, h);
                }
            }
        }

        private void link(int g, int i, int h) {
            behind[g * MOST_MIRRORS + i] = h;
            behind[h * MOST_MIRRORS + i] = g;
            shortening[h] |= 1 << i;
        }

        /**
         * The element that with j behind it is g i. A longest word of the letters i and j alone can be written with
         * either letter last, and nothing else gives an element two last letters: so g must end with one letter less
         * of that word, and what is sought ends with as many letters of the other writing.
         */
        private int acrossPair(int g, int i, int j, int m) {
            int x = g;
            int letter = j;
            for (int k = 1; k < m; k++) {
                if ((shortening[x] >> letter & 1) == 0) {
                    return NONE;
                }
                x = behind[x * MOST_MIRRORS + letter];
                letter = i + j - letter;
            }
            // What was taken off last begins one writing; the letter that would come next begins the other.
            for (int k = 1; k < m && x != NONE; k++) {
                x = behind[x * MOST_MIRRORS + letter];
                letter = i + j - letter;
            }
            return x;
        }

        private void turnRound() {
            inverses[0] = 0;
            for (int i = 0; i < diagram.mirrors; i++) {
                ahead[i] = behind[i];
            }
            for (int g = 1; g < size; g++) {
                int rest = before[g] * MOST_MIRRORS;
                for (int i = 0; i < diagram.mirrors; i++) {
                    ahead[g * MOST_MIRRORS + i] = behind[ahead[rest + i] * MOST_MIRRORS + last[g]];
                }
            }
            for (int g = 1; g < size; g++) {
                inverses[g] = ahead[inverses[before[g]] * MOST_MIRRORS + last[g]];
            }
        }

        int lengthOf(int g) {
            return lengths[g];
        }

        int inverseOf(int g) {
            return inverses[g];
        }

        int withBehind(int g, int i) {
            return behind[g * MOST_MIRRORS + i];
        }

        /** The element without a last letter that is of the set, or NONE if no such letter makes it shorter. */
        int shortenedBy(int g, int set) {
            int letters = shortening[g] & set;
            for (int i = 0; i < MOST_MIRRORS && letters != 0; i++) {
                if ((letters >> i & 1) != 0) {
                    return behind[g * MOST_MIRRORS + i];
                }
            }
            return NONE;
        }

        int letterOf(int g, int i) {
            if (i >= lengths[g]) {
                return NONE;
            }
            int x = g;
            for (int k = lengths[g] - 1; k > i; k--) {
                x = before[x];
            }
            return last[x];
        }

        /** Takes a word that isWord() has found right; its last letter is the lowest digit. */
        int elementOf(int word) {
            int x = 0;
            for (int rest = word; rest > 0; rest /= BASE) {
                x = ahead[x * MOST_MIRRORS + rest % BASE - 1];
            }
            return x;
        }

        int productOf(int g, int h) {
            int x = h;
            int rest = g;
            for (int k = lengths[g]; k > 0; k--) {
                x = ahead[x * MOST_MIRRORS + last[rest]];
                rest = before[rest];
            }
            return x;
        }

        int turnsOf(int g) {
            int times = 1;
            int x = g;
            while (x != 0 && times < size) {
                x = productOf(x, g);
                times++;
            }
            return times;
        }

        int countLength(int length) {
            int count = 0;
            for (int g = 0; g < size; g++) {
                if (lengths[g] == length) {
                    count++;
                }
            }
            return count;
        }

        /** How many elements are of one class with one of so many from the first on. */
        int countClasses(int first, int many) {
            Arrays.fill(marks, 0);
            int count = 0;
            for (int g = first; g < first + many && g < size; g++) {
                count = mark(g, count);
            }
            for (int k = 0; k < count && k < MOST_ELEMENTS; k++) {
                for (int i = 0; i < diagram.mirrors; i++) {
                    int turned = ahead[queue[k] * MOST_MIRRORS + i];
                    count = mark(behind[turned * MOST_MIRRORS + i], count);
                }
            }
            return count;
        }

        private int mark(int g, int count) {
            if (marks[g] != 0) {
                return count;
            }
            marks[g] = 1;
            queue[count] = g;
            return count + 1;
        }
    }

    /** The parts of all kinds. A kind's row must be made before it is asked for. */
    private static final class Parts {
        private final Diagram diagram;
        private final Group group;
        /** The part of a kind that has element g, at kind * MOST_ELEMENTS + g. */
        private final int[] rows = new int[SETS * MOST_ELEMENTS];
        /** No kind is without parts: 0 is for a row that is not made. */
        private final int[] counts = new int[SETS];
        private final int[] marks = new int[MOST_ELEMENTS];

        Parts(Diagram diagram, Group group) {
            this.diagram = diagram;
            this.group = group;
        }

        void begin() {
            Arrays.fill(counts, 0);
        }

        /** The shortest element of a part is its least, and each other one of it can be made shorter within it. */
        void make(int kind) {
            if (counts[kind] != 0) {
                return;
            }
            int stay = diagram.stayOf(kind);
            int row = kind * MOST_ELEMENTS;
            int count = 0;
            for (int g = 0; g < group.size; g++) {
                int shorter = group.shortenedBy(g, stay);
                if (shorter == NONE) {
                    rows[row + g] = count;
                    count++;
                } else {
                    rows[row + g] = rows[row + shorter];
                }
            }
            counts[kind] = count;
        }

        int countOf(int kind) {
            return counts[kind];
        }

        int partWith(int kind, int g) {
            return rows[kind * MOST_ELEMENTS + g];
        }

        int leastOf(int kind, int part) {
            for (int g = 0; g < group.size; g++) {
                if (partWith(kind, g) == part) {
                    return g;
                }
            }
            return NONE;
        }

        boolean meet(int kind, int part, int other, int part2) {
            for (int g = 0; g < group.size; g++) {
                if (partWith(kind, g) == part && partWith(other, g) == part2) {
                    return true;
                }
            }
            return false;
        }

        /** Marks the parts of a kind that have an element in common with a part of another one: how many. */
        int markMeeting(int kind, int other, int part2) {
            Arrays.fill(marks, 0);
            int count = 0;
            for (int g = 0; g < group.size; g++) {
                int part = partWith(kind, g);
                if (partWith(other, g) == part2 && marks[part] == 0) {
                    marks[part] = 1;
                    count++;
                }
            }
            return count;
        }

        int cornerAt(int kind, int part, int i) {
            markMeeting(0, kind, part);
            int left = i;
            for (int corner = 0; corner < MOST_ELEMENTS; corner++) {
                if (marks[corner] != 0) {
                    if (left == 0) {
                        return corner;
                    }
                    left--;
                }
            }
            return NONE;
        }

        int countOfWidth(int width) {
            int count = 0;
            for (int set = 0; set < diagram.sets(); set++) {
                if (Integer.bitCount(set) == width && diagram.isKind(set)) {
                    make(set);
                    count += counts[set];
                }
            }
            return count;
        }

        int sumByTurns() {
            int sum = 0;
            for (int width = 0; width < diagram.mirrors; width++) {
                sum += width % 2 == 0 ? countOfWidth(width) : -countOfWidth(width);
            }
            return sum;
        }
    }

    /**
     * The corners and the edges between them. The group moves corner 0 to each other one, and edges to edges: what
     * is found at corner 0 is moved, not sought again.
     */
    private static final class Corners {
        /** How many corners each one is joined to. */
        int joins;
        private final Diagram diagram;
        private final Group group;
        private final Parts parts;
        private int count;
        private final int[] least = new int[MOST_ELEMENTS];
        /** Corner c's neighbours from c * joins on: each is got from an element of c by a ringed mirror. */
        private final int[] neighbours = new int[MOST_ELEMENTS * MOST_MIRRORS];
        private final int[] steps = new int[MOST_ELEMENTS];
        private final int[] queue = new int[MOST_ELEMENTS];
        private final long[] ways = new long[MOST_ELEMENTS];
        private final long[] longer = new long[MOST_ELEMENTS];

        Corners(Diagram diagram, Group group, Parts parts) {
            this.diagram = diagram;
            this.group = group;
            this.parts = parts;
        }

        void build() {
            count = parts.countOf(0);
            for (int g = group.size - 1; g >= 0; g--) {
                least[parts.partWith(0, g)] = g;
            }
            findFirstNeighbours();
            for (int corner = 1; corner < count; corner++) {
                for (int k = 0; k < joins; k++) {
                    neighbours[corner * joins + k] = moved(least[corner], neighbours[k]);
                }
            }
            findSteps();
        }

        private void findFirstNeighbours() {
            joins = 0;
            for (int g = 0; g < group.size; g++) {
                for (int i = 0; i < diagram.mirrors; i++) {
                    if (parts.partWith(0, g) == 0 && (diagram.ringed >> i & 1) != 0) {
                        addFirstNeighbour(parts.partWith(0, group.withBehind(g, i)));
                    }
                }
            }
        }

        private void addFirstNeighbour(int corner) {
            for (int k = 0; k < joins; k++) {
                if (neighbours[k] == corner) {
                    return;
                }
            }
            neighbours[joins] = corner;
            joins++;
        }

        private void findSteps() {
            Arrays.fill(steps, NONE);
            steps[0] = 0;
            queue[0] = 0;
            int found = 1;
            for (int q = 0; q < found && q < MOST_ELEMENTS; q++) {
                int corner = queue[q];
                for (int k = 0; k < joins; k++) {
                    int next = neighbours[corner * joins + k];
                    if (steps[next] == NONE) {
                        steps[next] = steps[corner] + 1;
                        queue[found] = next;
                        found++;
                    }
                }
            }
        }

        int moved(int g, int corner) {
            return parts.partWith(0, group.productOf(g, least[corner]));
        }

        int stepsBetween(int corner, int other) {
            return steps[moved(group.inverseOf(least[corner]), other)];
        }

        int countAt(int far) {
            int many = 0;
            for (int corner = 0; corner < count; corner++) {
                if (steps[corner] == far) {
                    many++;
                }
            }
            return many;
        }

        long countWays(int from, int to, int n) {
            Arrays.fill(ways, 0L);
            ways[from] = 1;
            for (int step = 0; step < n; step++) {
                for (int corner = 0; corner < count; corner++) {
                    long sum = 0;
                    for (int k = 0; k < joins; k++) {
                        sum += ways[neighbours[corner * joins + k]];
                    }
                    longer[corner] = sum;
                }
                System.arraycopy(longer, 0, ways, 0, count);
            }
            return ways[to];
        }

        /** All corners are reached from corner 0: so their colours can only be by whether the steps are even. */
        boolean hasTwoColours() {
            for (int corner = 0; corner < count; corner++) {
                for (int k = 0; k < joins; k++) {
                    int sum = steps[corner] + steps[neighbours[corner * joins + k]];
                    if (sum % 2 == 0) {
                        return false;
                    }
                }
            }
            return true;
        }
    }

    /**
     * The plates of a body with three mirrors, and which have an edge in common: the dual, and the row round a
     * corner. They are numbered kind by kind. There are so few that the bits of a long tell a set of them.
     */
    private static final class Plates {
        int plateCount;
        int aroundCount;
        private int edgeCount;
        private final Diagram diagram;
        private final Group group;
        private final Parts parts;
        private int plateKindCount;
        private final int[] plateKinds = new int[THREE];
        /** By kind: the number of its first edge or plate, and how many corners its plates have. */
        private final int[] first = new int[SETS_OF_THREE];
        private final int[] sizes = new int[SETS_OF_THREE];
        /** By plate: its kind. */
        private final int[] kinds = new int[MOST_PLATES];
        /** By edges: the plate that was first found there. */
        private final int[] plateAt = new int[MOST_EDGES];
        private final long[] joined = new long[MOST_PLATES];
        private final int[] walked = new int[MOST_AROUND];
        private final int[] around = new int[MOST_AROUND];

        Plates(Diagram diagram, Group group, Parts parts) {
            this.diagram = diagram;
            this.group = group;
            this.parts = parts;
        }

        void build() {
            numberParts();
            joinPlates();
            walkAround();
            turnToLeast();
        }

        private void numberParts() {
            plateCount = 0;
            edgeCount = 0;
            plateKindCount = 0;
            for (int set = 1; set < SETS_OF_THREE; set++) {
                int width = diagram.isKind(set) ? Integer.bitCount(set) : 0;
                if (width == 1) {
                    first[set] = edgeCount;
                    edgeCount = Math.min(edgeCount + parts.countOf(set), MOST_EDGES);
                } else if (width == 2 && plateKindCount < THREE) {
                    plateKinds[plateKindCount] = set;
                    plateKindCount++;
                    numberPlates(set);
                }
            }
        }

        private void numberPlates(int kind) {
            first[kind] = plateCount;
            sizes[kind] = parts.markMeeting(0, kind, 0);
            for (int k = parts.countOf(kind); k > 0 && plateCount < MOST_PLATES; k--) {
                kinds[plateCount] = kind;
                plateCount++;
            }
        }

        private void joinPlates() {
            Arrays.fill(plateAt, NONE);
            Arrays.fill(joined, 0L);
            for (int g = 0; g < group.size; g++) {
                for (int k = 0; k < plateKindCount; k++) {
                    int kind = plateKinds[k];
                    int plate = first[kind] + parts.partWith(kind, g);
                    for (int edgeKind = 1; edgeKind < SETS_OF_THREE; edgeKind <<= 1) {
                        if ((kind & diagram.ringed & edgeKind) != 0) {
                            joinAtEdge(plate, first[edgeKind] + parts.partWith(edgeKind, g));
                        }
                    }
                }
            }
        }

        /** An edge lies in two plates at most: one that is not the first to come to it is joined to that one. */
        private void joinAtEdge(int plate, int edge) {
            if (plate >= plateCount || edge >= edgeCount) {
                return;
            }
            int other = plateAt[edge];
            if (other == NONE) {
                plateAt[edge] = plate;
            } else if (other != plate) {
                joined[other] |= 1L << plate;
                joined[plate] |= 1L << other;
            }
        }

        /** Each plate at a corner has an edge in common with just the two that stand beside it there. */
        private void walkAround() {
            long left = 0;
            for (int g = 0; g < group.size; g++) {
                for (int k = 0; k < plateKindCount && parts.partWith(0, g) == 0; k++) {
                    left |= 1L << (first[plateKinds[k]] + parts.partWith(plateKinds[k], g));
                }
            }
            aroundCount = 0;
            int plate = lowest(left);
            while (plate != NONE && aroundCount < MOST_AROUND) {
                walked[aroundCount] = sizes[kinds[plate]];
                aroundCount++;
                left &= ~(1L << plate);
                plate = lowest(left & joined[plate]);
            }
        }

        private int lowest(long plates) {
            for (int plate = 0; plate < plateCount; plate++) {
                if ((plates >> plate & 1) != 0) {
                    return plate;
                }
            }
            return NONE;
        }

        private void turnToLeast() {
            int bestStart = 0;
            int bestWay = 1;
            for (int start = 0; start < aroundCount; start++) {
                for (int way = -1; way <= 1; way += 2) {
                    if (isLess(start, way, bestStart, bestWay)) {
                        bestStart = start;
                        bestWay = way;
                    }
                }
            }
            for (int k = 0; k < aroundCount; k++) {
                around[k] = walkedAt(bestStart, bestWay, k);
            }
        }

        private boolean isLess(int start, int way, int start2, int way2) {
            for (int k = 0; k < aroundCount; k++) {
                int one = walkedAt(start, way, k);
                int two = walkedAt(start2, way2, k);
                if (one != two) {
                    return one < two;
                }
            }
            return false;
        }

        private int walkedAt(int start, int way, int k) {
            int at = start + way * k;
            if (at < 0) {
                at += aroundCount;
            }
            return walked[at < aroundCount ? at : at - aroundCount];
        }

        int sizeAround(int i) {
            return i >= 0 && i < aroundCount ? around[i] : NONE;
        }

        /**
         * What alike bodies have alike, and unlike ones not. Of bodies that come of three mirrors the row round a
         * corner tells which it is: none is in the list of even bodies twice with one row. (A body is flat, or a
         * line alone, where mirrors are left out; then it has one size, or none.) Sizes are at most 12.
         */
        long likeness() {
            long likeness = parts.countOf(0);
            for (int k = 0; k < MOST_AROUND; k++) {
                likeness = likeness << 4 | (k < aroundCount ? around[k] : 0);
            }
            return likeness;
        }

        int countJoins() {
            int ends = 0;
            for (int plate = 0; plate < plateCount; plate++) {
                ends += Long.bitCount(joined[plate]);
            }
            return ends / 2;
        }

        int countWithJoins(int joins) {
            int count = 0;
            for (int plate = 0; plate < plateCount; plate++) {
                if (Long.bitCount(joined[plate]) == joins) {
                    count++;
                }
            }
            return count;
        }

        /** The group moves each plate to all of its kind: so the first of each kind stands for the others. */
        int widestWay() {
            int most = 0;
            for (int plate = 0; plate < plateCount; plate++) {
                if (plate == first[kinds[plate]]) {
                    most = Math.max(most, stepsToFarthest(plate));
                }
            }
            return most;
        }

        private int stepsToFarthest(int plate) {
            long reached = 1L << plate;
            for (int steps = 0; steps < MOST_PLATES; steps++) {
                long wider = reached | joinedToAny(reached);
                if (wider == reached) {
                    return steps;
                }
                reached = wider;
            }
            return MOST_PLATES;
        }

        private long joinedToAny(long plates) {
            long all = 0;
            for (int plate = 0; plate < plateCount; plate++) {
                if ((plates >> plate & 1) != 0) {
                    all |= joined[plate];
                }
            }
            return all;
        }
    }

    /** The snub of a body with three mirrors. Half ones move its corner 0 to each other one, and edges to edges. */
    private static final class Snub {
        int corners;
        /** How many edges are at each corner. */
        int joins;
        private final Diagram diagram;
        private final Group group;
        private final int[] halves = new int[MOST_ELEMENTS];
        /** By elements, not by corners: how many edges it is from corner 0. */
        private final int[] steps = new int[MOST_ELEMENTS];
        private final int[] queue = new int[MOST_ELEMENTS];

        Snub(Diagram diagram, Group group) {
            this.diagram = diagram;
            this.group = group;
        }

        void build() {
            corners = 0;
            for (int g = 0; g < group.size; g++) {
                if (group.lengthOf(g) % 2 == 0) {
                    halves[corners] = g;
                    corners++;
                }
            }
            findSteps();
            joins = 0;
            for (int corner = 0; corner < corners; corner++) {
                if (steps[halves[corner]] == 1) {
                    joins++;
                }
            }
        }

        private void findSteps() {
            Arrays.fill(steps, NONE);
            steps[0] = 0;
            queue[0] = 0;
            int found = 1;
            for (int q = 0; q < found && q < MOST_ELEMENTS; q++) {
                int g = queue[q];
                // A pair of like mirrors leads back to g, which has its steps already.
                for (int pair = 0; pair < THREE * THREE; pair++) {
                    int next = group.withBehind(group.withBehind(g, pair / THREE), pair % THREE);
                    if (steps[next] == NONE) {
                        steps[next] = steps[g] + 1;
                        queue[found] = next;
                        found++;
                    }
                }
            }
        }

        int stepsBetween(int corner, int other) {
            return steps[group.productOf(group.inverseOf(halves[corner]), halves[other])];
        }

        int countEdges() {
            return corners * joins / 2;
        }

        int countPlates() {
            int count = 0;
            for (int size = THREE; size <= MOST_ANGLE; size++) {
                count += countPlatesOf(size);
            }
            return count;
        }

        int countPlatesOf(int size) {
            int count = size == THREE ? group.size - corners : 0;
            for (int i = 0; i < THREE; i++) {
                for (int j = i + 1; j < THREE; j++) {
                    if (size > 2 && diagram.angleOf(i, j) == size) {
                        count += corners / size;
                    }
                }
            }
            return count;
        }
    }
}
