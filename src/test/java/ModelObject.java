import java.util.ArrayList;
import java.util.Arrays;
import java.util.HashMap;
import java.util.List;
import java.util.Map;

/** The whole object as the document tells it: four bodies, what is refused and in what order, every call by name. */
final class ModelObject {
    static final long NONE = -1, BAD = -2, NO = -3, SPENT = -5;
    private static final Map<String, Model> MODELS = new HashMap<>();
    private static final Map<String, Long> DEAR = new HashMap<>();

    private final int[] r = {1, 1, 1, 1};
    private final int[] ringed = {1, 1, 1, 1};
    private final int[][][] m = new int[4][][];

    ModelObject() {
        for (int b = 0; b < 4; b++) {
            m[b] = twos(1);
        }
    }

    /** What is kept is kept for speed alone: a test of many bodies forgets what it is through with. */
    static void forget() {
        MODELS.clear();
        DEAR.clear();
        Model.Elements.forget();
    }

    private static int[][] twos(int r) {
        int[][] m = new int[r][r];
        for (int i = 0; i < r; i++) {
            Arrays.fill(m[i], 2);
            m[i][i] = 1;
        }
        return m;
    }

    private static int[][] copy(int[][] m) {
        int[][] c = new int[m.length][];
        for (int i = 0; i < m.length; i++) {
            c[i] = m[i].clone();
        }
        return c;
    }

    private String key(int b) {
        return r[b] + Arrays.deepToString(m[b]) + ringed[b];
    }

    Model model(int b) {
        return MODELS.computeIfAbsent(key(b), k -> new Model(r[b], copy(m[b]), ringed[b]));
    }

    private boolean in(int x, int from, int to) {
        return x >= from && x <= to;
    }

    private boolean mirror(int b, int i) {
        return in(i, 0, r[b] - 1);
    }

    long call(String name, int... a) {
        if (name.equals("digest")) {
            return digest();
        }
        if (!in(a[0], 0, 3)) {
            return BAD;
        }
        return switch (name) {
            case "body", "angle", "ring", "order", "about" -> mirrorCall(name, a);
            case "kinds" -> in(a[1], 0, r[a[0]]) ? model(a[0]).kinds(a[1]).size() : BAD;
            case "kind" -> in(a[1], 0, r[a[0]]) && a[2] >= 0 ? at(model(a[0]).kinds(a[1]), a[2]) : BAD;
            case "alike" -> alike(a[0], a[1]);
            case "length", "letter", "element", "product", "inverse", "turns", "classSize", "ofLength", "mirrors",
                "size" -> groupCall(name, a);
            case "round", "unlike", "snub", "snubLaw", "snubDegree", "snubFar", "snubFaces", "dual", "dualDegree",
                "dualFar" -> threeCall(name, a);
            default -> partCall(name, a);
        };
    }

    private static long at(List<Integer> list, int i) {
        return i < list.size() ? list.get(i) : NONE;
    }

    private long digest() {
        long h = 271;
        for (int b = 0; b < 4; b++) {
            h = 31 * h + r[b];
            for (int i = 0; i < r[b]; i++) {
                for (int j = i + 1; j < r[b]; j++) {
                    h = 31 * h + m[b][i][j];
                }
            }
            h = 31 * h + ringed[b];
            h = 31 * h + groupCall("size", b);
        }
        return h;
    }

    private long mirrorCall(String name, int... a) {
        int b = a[0];
        switch (name) {
            case "body":
                if (!in(a[1], 1, 4)) {
                    return BAD;
                }
                r[b] = a[1];
                m[b] = twos(a[1]);
                ringed[b] = 1;
                return 1;
            case "angle":
                if (!mirror(b, a[1]) || !mirror(b, a[2]) || a[1] == a[2] || !in(a[3], 2, 6)) {
                    return BAD;
                }
                int was = m[b][a[1]][a[2]];
                m[b][a[1]][a[2]] = a[3];
                m[b][a[2]][a[1]] = a[3];
                return was;
            case "ring":
                if (!in(a[1], 1, (1 << r[b]) - 1)) {
                    return BAD;
                }
                int were = ringed[b];
                ringed[b] = a[1];
                return were;
            case "order":
                return order(b, a[1], a[2]);
            default:
                if (!in(a[1], 0, 2) || a[1] == 2 && !mirror(b, a[2])) {
                    return BAD;
                }
                if (a[1] < 2) {
                    return a[1] == 0 ? r[b] : ringed[b];
                }
                int joined = 0;
                for (int j = 0; j < r[b]; j++) {
                    joined |= m[b][a[2]][j] > 2 ? 1 << j : 0;
                }
                return joined;
        }
    }

    private long order(int b, int order, int to) {
        String digits = Integer.toString(order);
        if (order < 0 || digits.length() > r[b] || !in(to, 0, 3)) {
            return BAD;
        }
        digits = "0".repeat(r[b] - digits.length()) + digits;
        List<Integer> from = new ArrayList<>();
        for (char c : digits.toCharArray()) {
            if (c - '0' >= r[b] || from.contains(c - '0')) {
                return BAD;
            }
            from.add(c - '0');
        }
        int[][] angles = twos(r[b]);
        int rings = 0;
        for (int i = 0; i < r[b]; i++) {
            rings |= Model.has(ringed[b], from.get(i)) ? 1 << i : 0;
            for (int j = 0; j < r[b]; j++) {
                angles[i][j] = m[b][from.get(i)][from.get(j)];
            }
        }
        r[to] = r[b];
        m[to] = angles;
        ringed[to] = rings;
        return 1;
    }

    private static int[] word(int digits, int r) {
        if (digits < 0) {
            return null;
        }
        String text = digits == 0 ? "" : Integer.toString(digits);
        int[] word = new int[text.length()];
        for (int k = 0; k < word.length; k++) {
            word[k] = text.charAt(k) - '1';
            if (word[k] < 0 || word[k] >= r) {
                return null;
            }
        }
        return word;
    }

    private long groupCall(String name, int... a) {
        Model x = model(a[0]);
        for (int k = 1; k < a.length; k++) {
            if (a[k] < 0) {
                return BAD;
            }
        }
        if (name.equals("element") && word(a[1], r[a[0]]) == null) {
            return BAD;
        }
        if (x.isSpent()) {
            return SPENT;
        }
        boolean first = !List.of("size", "mirrors", "element", "ofLength").contains(name);
        if (first && a[1] >= x.size() || name.equals("product") && a[2] >= x.size()) {
            return BAD;
        }
        switch (name) {
            case "size": return x.size();
            case "length": return x.elements.words.get(a[1]).length;
            case "letter": return a[2] < x.elements.words.get(a[1]).length ? x.elements.words.get(a[1])[a[2]] : NONE;
            case "element": return x.elementOf(word(a[1], r[a[0]]));
            case "product": return x.product(a[1], a[2]);
            case "inverse": return x.inverse(a[1]);
            case "turns": return x.turns(a[1]);
            case "classSize": return x.classOf(a[1]).size();
            case "mirrors": return dear(key(a[0]) + name, x::mirrors);
            default: return x.elements.words.stream().filter(w -> w.length == a[1]).count();
        }
    }

    private interface Answer {
        long get();
    }

    private static long dear(String key, Answer answer) {
        Long kept = DEAR.get(key);
        if (kept == null) {
            kept = answer.get();
            DEAR.put(key, kept);
        }
        return kept;
    }

    private boolean badBeforeGroup(String name, int... a) {
        Model x = model(a[0]);
        return switch (name) {
            case "parts" -> !x.isKind(a[1]);
            case "partOf", "least", "corners" -> !x.isKind(a[1]) || a[2] < 0;
            case "cornerOf" -> !x.isKind(a[1]) || a[2] < 0 || a[3] < 0;
            case "liesIn" -> !x.isKind(a[1]) || a[2] < 0 || !x.isKind(a[3]) || a[4] < 0;
            case "within" -> !x.isKind(a[1]) || !x.isKind(a[2]) || a[3] < 0;
            case "count" -> !in(a[1], 0, r[a[0]]);
            case "law", "coloured" -> false;
            case "ways" -> a[1] < 0 || a[2] < 0 || !in(a[3], 0, 12);
            case "moves", "far" -> a[1] < 0 || a[2] < 0;
            case "degree", "layer" -> a[1] < 0;
            default -> throw new IllegalArgumentException(name);
        };
    }

    private boolean badWithGroup(String name, int... a) {
        Model x = model(a[0]);
        return switch (name) {
            case "partOf" -> a[2] >= x.size();
            case "least", "corners", "cornerOf" -> a[2] >= x.parts(a[1]).size();
            case "liesIn" -> a[2] >= x.parts(a[1]).size() || a[4] >= x.parts(a[3]).size();
            case "within" -> a[3] >= x.parts(a[2]).size();
            case "moves" -> a[1] >= x.size() || a[2] >= x.parts(0).size();
            case "degree" -> a[1] >= x.parts(0).size();
            case "far", "ways" -> a[1] >= x.parts(0).size() || a[2] >= x.parts(0).size();
            default -> false;
        };
    }

    private long partCall(String name, int... a) {
        Model x = model(a[0]);
        if (badBeforeGroup(name, a)) {
            return BAD;
        }
        if (x.isSpent()) {
            return SPENT;
        }
        if (badWithGroup(name, a)) {
            return BAD;
        }
        return switch (name) {
            case "parts" -> x.parts(a[1]).size();
            case "partOf" -> x.partOf(a[1], a[2]);
            case "least" -> x.parts(a[1]).get(a[2]).first();
            case "corners" -> x.cornersOf(a[1], a[2]).size();
            case "cornerOf" -> at(x.cornersOf(a[1], a[2]), a[3]);
            case "liesIn" -> x.liesIn(a[1], a[2], a[3], a[4]) ? 1 : 0;
            case "within" -> x.within(a[1], a[2], a[3]);
            case "count" -> x.count(a[1]);
            case "law" -> x.law();
            case "moves" -> x.partOf(0, x.product(a[1], x.parts(0).get(a[2]).last()));
            case "degree" -> x.near().get(a[1]).size();
            case "far" -> Model.steps(x.near(), a[1])[a[2]];
            case "layer" -> x.layer(a[1]);
            case "ways" -> x.ways(a[1], a[2], a[3]);
            case "coloured" -> x.coloured() ? 1 : 0;
            default -> throw new IllegalArgumentException(name);
        };
    }

    private long alike(int b, int other) {
        if (!in(other, 0, 3)) {
            return BAD;
        }
        if (model(b).isSpent() || model(other).isSpent()) {
            return SPENT;
        }
        if (r[b] != 3 || r[other] != 3) {
            return NO;
        }
        return dear(key(b) + "alike" + key(other), () -> Model.alike(model(b), model(other)) ? 1 : 0);
    }

    private long threeCall(String name, int... a) {
        int b = a[0];
        Model x = model(b);
        boolean bad = switch (name) {
            case "round" -> a[1] < -1;
            case "snub", "dual" -> !in(a[1], 0, 2);
            case "snubDegree", "dualDegree" -> a[1] < 0;
            case "snubFar" -> a[1] < 0 || a[2] < 0;
            case "snubFaces" -> a[1] < 2;
            default -> false;
        };
        if (bad) {
            return BAD;
        }
        if (x.isSpent()) {
            return SPENT;
        }
        if (r[b] != 3) {
            return NO;
        }
        int halves = x.halves().size();
        if (name.equals("snubDegree") && a[1] >= halves
                || name.equals("snubFar") && (a[1] >= halves || a[2] >= halves)) {
            return BAD;
        }
        String kept = key(b) + name;
        return switch (name) {
            case "round" -> {
                List<Integer> row = x.round();
                yield a[1] == -1 ? row.size() : at(row, a[1]);
            }
            case "unlike" -> dear(kept, x::unlike);
            case "snub" -> a[1] == 0 ? halves : a[1] == 1 ? x.snubEdges() : x.snubPlates().size();
            case "snubLaw" -> halves - x.snubEdges() + x.snubPlates().size();
            case "snubDegree" -> x.snubNear().get(a[1]).size();
            case "snubFar" -> Model.steps(x.snubNear(), a[1])[a[2]];
            case "snubFaces" -> x.snubFaces(a[1]);
            case "dual" -> a[1] == 0 ? x.plates().size() : a[1] == 1 ? x.dualJoins() : x.parts(0).size();
            case "dualDegree" -> x.dualDegree(a[1]);
            case "dualFar" -> dear(kept, x::dualFar);
            default -> throw new IllegalArgumentException(name);
        };
    }
}
