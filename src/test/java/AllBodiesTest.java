import java.util.ArrayList;
import java.util.List;

/** Every body of one, two and three mirrors, and whole groups of four, with every call on it, against the model. */
public final class AllBodiesTest {
    private static final int[][] PAIRS = {{0, 1}, {0, 2}, {1, 2}, {0, 3}, {1, 3}, {2, 3}};
    /**
     * How many ways of angles there are, by what is joined: 1 with nothing joined; 6 pairs of 4 angles; 3 times two
     * pairs of 16 angles; 4 times three mirrors in a row of 3 3 (3 ways), 3 4 (6) or 3 5 (6); rows of 3 3 3 (12) and
     * 3 3 4 (24); 4 with one mirror in the midst.
     */
    private static final int WHOLE_OF_FOUR = 1 + 24 + 48 + 60 + 12 + 24 + 4;

    public static void main(String[] args) {
        for (int r = 1; r <= 3; r++) {
            int pairs = r * (r - 1) / 2;
            for (int code = 0; code < Math.pow(5, pairs); code++) {
                askAll(r, angles(code, pairs));
            }
        }
        askWholeOfFour();
        askAll(4, new int[] {3, 2, 4, 2, 2, 3});
        askAll(4, new int[] {3, 2, 3, 2, 2, 5});
        askAll(4, new int[] {6, 6, 6, 6, 6, 6});
        compareAll();
        Pair.end();
    }

    /** Which groups are whole is told by the class itself; that it tells this right is seen by how many there are. */
    private static void askWholeOfFour() {
        int whole = 0;
        for (int code = 0; code < Math.pow(5, PAIRS.length); code++) {
            int[] angles = angles(code, PAIRS.length);
            EvenBodies x = new EvenBodies();
            x.body(0, 4);
            for (int k = 0; k < PAIRS.length; k++) {
                x.angle(0, PAIRS[k][0], PAIRS[k][1], angles[k]);
            }
            if (x.size(0) > 0) {
                whole++;
                askAll(4, angles);
                ModelObject.forget();
            }
        }
        Pair.due("whole groups of four mirrors", whole, WHOLE_OF_FOUR);
    }

    private static int[] angles(int code, int pairs) {
        int[] angles = new int[pairs];
        int rest = code;
        for (int k = 0; k < pairs; k++) {
            angles[k] = 2 + rest % 5;
            rest /= 5;
        }
        return angles;
    }

    private static void set(Pair pair, int b, int r, int[] angles) {
        pair.call("body", b, r);
        for (int k = 0; k < angles.length; k++) {
            pair.call("angle", b, PAIRS[k][0], PAIRS[k][1], angles[k]);
        }
    }

    private static void askAll(int r, int[] angles) {
        Pair pair = new Pair();
        set(pair, 0, r, angles);
        askGroup(pair);
        for (int set = 1; set < 1 << r; set++) {
            pair.call("ring", 0, set);
            askParts(pair, r);
            askCorners(pair);
            askThree(pair);
        }
        pair.call("digest");
    }

    private static void askGroup(Pair pair) {
        long size = pair.call("size", 0);
        pair.call("mirrors", 0);
        for (int k = -1; k < 30; k++) {
            pair.call("ofLength", 0, k);
        }
        int step = size > 130 ? 23 : 1;
        for (int g = -1; g <= Math.max(size, 3); g += step) {
            pair.call("length", 0, g);
            pair.call("inverse", 0, g);
            pair.call("turns", 0, g);
            if (g % 7 == 3 || size < 60) {
                pair.call("classSize", 0, g);
            }
            for (int k = -1; k < 26; k++) {
                pair.call("letter", 0, g, k);
            }
            for (int h = -1; h <= size; h += step) {
                pair.call("product", 0, g, h);
            }
        }
    }

    private static void askParts(Pair pair, int r) {
        for (int width = -1; width <= r + 1; width++) {
            long kinds = pair.call("kinds", 0, width);
            pair.call("count", 0, width);
            for (int i = -1; i <= kinds; i++) {
                pair.call("kind", 0, width, i);
            }
        }
        pair.call("law", 0);
        List<Integer> kinds = new ArrayList<>();
        for (int set = -1; set <= 1 << r; set++) {
            if (pair.call("parts", 0, set) > 0) {
                kinds.add(set);
            }
        }
        for (int kind : kinds) {
            askKind(pair, kind, kinds);
        }
    }

    private static void askKind(Pair pair, int kind, List<Integer> kinds) {
        long size = pair.call("size", 0);
        int step = size > 130 ? 29 : 7;
        for (int g = -1; g <= size; g += step) {
            pair.call("partOf", 0, kind, g);
        }
        long parts = pair.call("parts", 0, kind);
        for (int p = -1; p <= parts; p += step) {
            pair.call("least", 0, kind, p);
            long corners = pair.call("corners", 0, kind, p);
            for (int i = -1; i <= corners; i += step) {
                pair.call("cornerOf", 0, kind, p, i);
            }
        }
        pair.call("least", 0, kind, (int) parts);
        for (int other : kinds) {
            long many = pair.call("parts", 0, other);
            for (int p = 0; p <= many; p += size > 130 ? 97 : 11) {
                pair.call("within", 0, kind, other, p);
                pair.call("liesIn", 0, kind, (int) (parts * p / (many + 1)), other, p);
                pair.call("liesIn", 0, kind, 0, other, p);
            }
        }
    }

    private static void askCorners(Pair pair) {
        long corners = pair.call("parts", 0, 0);
        int step = corners > 60 ? 37 : 5;
        for (int c = -1; c <= Math.max(corners, 1); c += step) {
            pair.call("degree", 0, c);
            for (int d = -1; d <= corners; d += step) {
                pair.call("far", 0, c, d);
                pair.call("ways", 0, c, d, Math.abs(c + 3 * d) % 13);
                pair.call("moves", 0, d, c);
            }
        }
        for (int far = -1; far < 20; far++) {
            pair.call("layer", 0, far);
        }
        pair.call("coloured", 0);
    }

    private static void askThree(Pair pair) {
        for (int i = -2; i < 7; i++) {
            pair.call("round", 0, i);
            pair.call("snub", 0, i);
            pair.call("dual", 0, i);
            pair.call("snubFaces", 0, i);
            pair.call("snubDegree", 0, i * 10);
            pair.call("snubFar", 0, i * 9, i + 3);
            pair.call("snubFar", 0, i, 59 - i);
        }
        for (int joins = -1; joins < 14; joins++) {
            pair.call("dualDegree", 0, joins);
        }
        pair.call("snubLaw", 0);
        pair.call("dualFar", 0);
        pair.call("unlike", 0);
    }

    /** Each whole body of three mirrors with each other one: one order of the mirrors stands for all. */
    private static void compareAll() {
        int[][] whole = {{2, 2, 2}, {3, 2, 2}, {4, 2, 2}, {5, 2, 2}, {6, 2, 2}, {3, 2, 3}, {4, 2, 3}, {2, 5, 3}};
        for (int[] one : whole) {
            for (int[] two : whole) {
                Pair pair = new Pair();
                set(pair, 1, 3, one);
                set(pair, 2, 3, two);
                for (int rings = 1; rings < 8; rings++) {
                    pair.call("ring", 1, rings);
                    for (int rings2 = 1; rings2 < 8; rings2++) {
                        pair.call("ring", 2, rings2);
                        pair.call("alike", 1, 2);
                        pair.call("alike", 2, 2);
                    }
                }
            }
        }
    }
}
