import java.util.ArrayDeque;
import java.util.ArrayList;
import java.util.Arrays;
import java.util.HashMap;
import java.util.HashSet;
import java.util.List;
import java.util.Map;
import java.util.Set;
import java.util.TreeMap;
import java.util.TreeSet;

/**
 * What the document says of one body, done as its words say it and by other means than the class: elements are
 * matrices of turned mirrors, parts are sets of elements, bodies are compared by trying. Slow, and only for tests.
 */
final class Model {
    static final int MOST = 500;

    final int r;
    final int[][] m;
    final int ringed;
    final Elements elements;

    private final Map<Integer, List<TreeSet<Integer>>> partsByKind = new HashMap<>();
    private List<Set<Integer>> near;
    private List<Set<Integer>> snubNear;
    private List<Set<Integer>> dualNear;

    Model(int r, int[][] m, int ringed) {
        this.r = r;
        this.m = m;
        this.ringed = ringed;
        this.elements = Elements.of(r, m);
    }

    boolean isSpent() {
        return elements.isSpent;
    }

    /** The elements of the group, by least words; kept by angles, as they do not hang on the rings. */
    static final class Elements {
        private static final Map<String, Elements> KEPT = new HashMap<>();

        final List<int[]> words = new ArrayList<>();
        final List<double[][]> matrices = new ArrayList<>();
        final Map<String, Integer> numbers = new HashMap<>();
        final double[][][] mirrors;
        boolean isSpent;
        int[][] products;

        static void forget() {
            KEPT.clear();
        }

        static Elements of(int r, int[][] m) {
            String key = r + Arrays.deepToString(m);
            Elements kept = KEPT.get(key);
            if (kept == null) {
                kept = new Elements(r, m);
                KEPT.put(key, kept);
            }
            return kept;
        }

        private Elements(int r, int[][] m) {
            mirrors = new double[r][][];
            for (int i = 0; i < r; i++) {
                mirrors[i] = mirror(r, m, i);
            }
            add(new int[0], unit(r));
            for (int g = 0; g < words.size() && !isSpent; g++) {
                for (int i = 0; i < r && !isSpent; i++) {
                    double[][] next = times(matrices.get(g), mirrors[i]);
                    if (!numbers.containsKey(key(next))) {
                        int[] word = Arrays.copyOf(words.get(g), words.get(g).length + 1);
                        word[word.length - 1] = i;
                        add(word, next);
                        isSpent = words.size() > MOST;
                    }
                }
            }
            if (!isSpent) {
                fillProducts();
            }
        }

        private void add(int[] word, double[][] matrix) {
            numbers.put(key(matrix), words.size());
            words.add(word);
            matrices.add(matrix);
        }

        private void fillProducts() {
            int n = words.size();
            products = new int[n][n];
            for (int g = 0; g < n; g++) {
                for (int h = 0; h < n; h++) {
                    int x = g;
                    for (int i : words.get(h)) {
                        x = products1(x, i);
                    }
                    products[g][h] = x;
                }
            }
        }

        private final Map<Integer, Integer> ones = new HashMap<>();

        private int products1(int g, int i) {
            return ones.computeIfAbsent(g * 4 + i, k -> numbers.get(key(times(matrices.get(g), mirrors[i]))));
        }

        private static double[][] unit(int r) {
            double[][] unit = new double[r][r];
            for (int i = 0; i < r; i++) {
                unit[i][i] = 1;
            }
            return unit;
        }

        private static double[][] mirror(int r, int[][] m, int i) {
            double[][] mirror = unit(r);
            for (int j = 0; j < r; j++) {
                double form = i == j ? 1 : -Math.cos(Math.PI / m[i][j]);
                mirror[i][j] -= 2 * form;
            }
            return mirror;
        }

        private static double[][] times(double[][] a, double[][] b) {
            int r = a.length;
            double[][] c = new double[r][r];
            for (int i = 0; i < r; i++) {
                for (int j = 0; j < r; j++) {
                    for (int k = 0; k < r; k++) {
                        c[i][j] += a[i][k] * b[k][j];
                    }
                }
            }
            return c;
        }

        private static String key(double[][] a) {
            StringBuilder key = new StringBuilder();
            for (double[] row : a) {
                for (double x : row) {
                    key.append(Math.round(x * 1000)).append(' ');
                }
            }
            return key.toString();
        }
    }

    // ---- the group

    int size() {
        return elements.words.size();
    }

    int product(int g, int h) {
        return elements.products[g][h];
    }

    int inverse(int g) {
        for (int h = 0; h < size(); h++) {
            if (product(g, h) == 0) {
                return h;
            }
        }
        throw new IllegalStateException();
    }

    int elementOf(int[] word) {
        int x = 0;
        for (int i : word) {
            x = product(x, 1 + i);
        }
        return x;
    }

    int turns(int g) {
        int n = 1;
        for (int x = g; x != 0; x = product(x, g)) {
            n++;
        }
        return n;
    }

    Set<Integer> classOf(int g) {
        Set<Integer> all = new HashSet<>();
        for (int h = 0; h < size(); h++) {
            all.add(product(product(h, g), inverse(h)));
        }
        return all;
    }

    int mirrors() {
        Set<Integer> all = new HashSet<>();
        for (int i = 0; i < r; i++) {
            all.addAll(classOf(1 + i));
        }
        return all.size();
    }

    // ---- parts

    static boolean has(int set, int i) {
        return (set >> i & 1) == 1;
    }

    boolean isKind(int set) {
        if (set < 0 || set >= 1 << r) {
            return false;
        }
        for (int i = 0; i < r; i++) {
            if (has(set, i) && !reachesRinged(set, i)) {
                return false;
            }
        }
        return true;
    }

    private boolean reachesRinged(int set, int i) {
        Set<Integer> seen = new HashSet<>(List.of(i));
        ArrayDeque<Integer> queue = new ArrayDeque<>(List.of(i));
        while (!queue.isEmpty()) {
            int x = queue.poll();
            if (has(ringed, x)) {
                return true;
            }
            for (int y = 0; y < r; y++) {
                if (y != x && has(set, y) && m[x][y] > 2 && seen.add(y)) {
                    queue.add(y);
                }
            }
        }
        return false;
    }

    List<Integer> kinds(int width) {
        List<Integer> all = new ArrayList<>();
        for (int set = 0; set < 1 << r; set++) {
            if (Integer.bitCount(set) == width && isKind(set)) {
                all.add(set);
            }
        }
        return all;
    }

    private Set<Integer> stay(int kind) {
        List<Integer> letters = new ArrayList<>();
        for (int i = 0; i < r; i++) {
            boolean still = !has(kind, i) && !has(ringed, i);
            for (int j = 0; j < r; j++) {
                still = still && !(has(kind, j) && j != i && m[i][j] > 2);
            }
            if (has(kind, i) || still) {
                letters.add(i);
            }
        }
        Set<Integer> all = new HashSet<>(List.of(0));
        ArrayDeque<Integer> queue = new ArrayDeque<>(List.of(0));
        while (!queue.isEmpty()) {
            int x = queue.poll();
            for (int i : letters) {
                int y = product(x, 1 + i);
                if (all.add(y)) {
                    queue.add(y);
                }
            }
        }
        return all;
    }

    List<TreeSet<Integer>> parts(int kind) {
        return partsByKind.computeIfAbsent(kind, this::makeParts);
    }

    private List<TreeSet<Integer>> makeParts(int kind) {
        Set<Integer> stay = stay(kind);
        TreeMap<Integer, TreeSet<Integer>> byLeast = new TreeMap<>();
        for (int g = 0; g < size(); g++) {
            TreeSet<Integer> part = new TreeSet<>();
            for (int h : stay) {
                part.add(product(g, h));
            }
            byLeast.put(part.first(), part);
        }
        return new ArrayList<>(byLeast.values());
    }

    int partOf(int kind, int g) {
        List<TreeSet<Integer>> parts = parts(kind);
        for (int p = 0; p < parts.size(); p++) {
            if (parts.get(p).contains(g)) {
                return p;
            }
        }
        throw new IllegalStateException();
    }

    boolean liesIn(int kind, int part, int other, int part2) {
        if (kind == other || (kind | other) != other) {
            return false;
        }
        for (int g : parts(kind).get(part)) {
            if (parts(other).get(part2).contains(g)) {
                return true;
            }
        }
        return false;
    }

    int within(int kind, int other, int part2) {
        int n = 0;
        for (int p = 0; p < parts(kind).size(); p++) {
            n += liesIn(kind, p, other, part2) ? 1 : 0;
        }
        return n;
    }

    List<Integer> cornersOf(int kind, int part) {
        List<Integer> all = new ArrayList<>();
        for (int c = 0; c < parts(0).size(); c++) {
            if (kind == 0 ? c == part : liesIn(0, c, kind, part)) {
                all.add(c);
            }
        }
        return all;
    }

    int count(int width) {
        int n = 0;
        for (int kind : kinds(width)) {
            n += parts(kind).size();
        }
        return n;
    }

    int law() {
        int sum = 0;
        int sign = 1;
        for (int k = 0; k < r; k++) {
            sum += sign * count(k);
            sign = -sign;
        }
        return sum;
    }

    // ---- corners, ways

    List<Set<Integer>> near() {
        if (near == null) {
            near = new ArrayList<>();
            for (int c = 0; c < parts(0).size(); c++) {
                near.add(new TreeSet<>());
            }
            for (int kind : kinds(1)) {
                for (int e = 0; e < parts(kind).size(); e++) {
                    List<Integer> ends = cornersOf(kind, e);
                    if (ends.size() != 2) {
                        throw new IllegalStateException("an edge with " + ends.size() + " corners");
                    }
                    near.get(ends.get(0)).add(ends.get(1));
                    near.get(ends.get(1)).add(ends.get(0));
                }
            }
        }
        return near;
    }

    static int[] steps(List<Set<Integer>> near, int from) {
        int[] steps = new int[near.size()];
        Arrays.fill(steps, -1);
        steps[from] = 0;
        ArrayDeque<Integer> queue = new ArrayDeque<>(List.of(from));
        while (!queue.isEmpty()) {
            int x = queue.poll();
            for (int y : near.get(x)) {
                if (steps[y] < 0) {
                    steps[y] = steps[x] + 1;
                    queue.add(y);
                }
            }
        }
        return steps;
    }

    int layer(int far) {
        int n = 0;
        for (int s : steps(near(), 0)) {
            n += s == far ? 1 : 0;
        }
        return n;
    }

    long ways(int from, int to, int n) {
        long[] ways = new long[near().size()];
        ways[from] = 1;
        for (int k = 0; k < n; k++) {
            long[] next = new long[ways.length];
            for (int c = 0; c < ways.length; c++) {
                for (int d : near().get(c)) {
                    next[d] += ways[c];
                }
            }
            ways = next;
        }
        return ways[to];
    }

    boolean coloured() {
        int[] colours = new int[near().size()];
        for (int start = 0; start < colours.length; start++) {
            if (colours[start] != 0) {
                continue;
            }
            colours[start] = 1;
            ArrayDeque<Integer> queue = new ArrayDeque<>(List.of(start));
            while (!queue.isEmpty()) {
                int x = queue.poll();
                for (int y : near().get(x)) {
                    if (colours[y] == colours[x]) {
                        return false;
                    }
                    if (colours[y] == 0) {
                        colours[y] = -colours[x];
                        queue.add(y);
                    }
                }
            }
        }
        return true;
    }

    /** A plate as kind and part. */
    List<int[]> plates() {
        List<int[]> all = new ArrayList<>();
        for (int kind : kinds(2)) {
            for (int p = 0; p < parts(kind).size(); p++) {
                all.add(new int[] {kind, p});
            }
        }
        return all;
    }

    private boolean shareEdge(int[] p, int[] q, boolean atCorner0) {
        for (int kind : kinds(1)) {
            for (int e = 0; e < parts(kind).size(); e++) {
                if (liesIn(kind, e, p[0], p[1]) && liesIn(kind, e, q[0], q[1])
                        && (!atCorner0 || liesIn(0, 0, kind, e))) {
                    return true;
                }
            }
        }
        return false;
    }

    /** All orders of the plates at corner 0 are tried, and the least row that goes round is taken. */
    List<Integer> round() {
        List<int[]> at = new ArrayList<>();
        for (int[] p : plates()) {
            if (liesIn(0, 0, p[0], p[1])) {
                at.add(p);
            }
        }
        int n = at.size();
        boolean[][] beside = new boolean[n][n];
        for (int a = 0; a < n; a++) {
            for (int b = 0; b < n; b++) {
                beside[a][b] = n == 1 || a != b && shareEdge(at.get(a), at.get(b), true);
            }
        }
        int[] sizes = new int[n];
        for (int a = 0; a < n; a++) {
            sizes[a] = cornersOf(at.get(a)[0], at.get(a)[1]).size();
        }
        List<List<Integer>> rows = new ArrayList<>();
        permute(n, new ArrayList<>(), beside, sizes, rows);
        List<Integer> best = null;
        for (List<Integer> row : rows) {
            if (best == null || compare(row, best) < 0) {
                best = row;
            }
        }
        if (best == null) {
            throw new IllegalStateException("no way round");
        }
        return best;
    }

    private static void permute(int n, List<Integer> so, boolean[][] beside, int[] sizes, List<List<Integer>> rows) {
        if (so.size() == n) {
            if (n == 0 || beside[so.get(n - 1)][so.get(0)]) {
                List<Integer> row = new ArrayList<>();
                for (int a : so) {
                    row.add(sizes[a]);
                }
                rows.add(row);
            }
            return;
        }
        for (int a = 0; a < n; a++) {
            if (!so.contains(a) && (so.isEmpty() || beside[so.get(so.size() - 1)][a])) {
                so.add(a);
                permute(n, so, beside, sizes, rows);
                so.remove(so.size() - 1);
            }
        }
    }

    private static int compare(List<Integer> a, List<Integer> b) {
        for (int k = 0; k < a.size() && k < b.size(); k++) {
            if (!a.get(k).equals(b.get(k))) {
                return Integer.compare(a.get(k), b.get(k));
            }
        }
        return Integer.compare(a.size(), b.size());
    }

    private Set<Set<Integer>> plateSets;

    private Set<Set<Integer>> plateSets() {
        if (plateSets == null) {
            plateSets = new HashSet<>();
            for (int[] p : plates()) {
                plateSets.add(new HashSet<>(cornersOf(p[0], p[1])));
            }
        }
        return plateSets;
    }

    /** Whether corners can be put one for one: tried corner by corner, along ways from corner 0. */
    static boolean alike(Model a, Model b) {
        if (a.near().size() != b.near().size() || a.plateSets().size() != b.plateSets().size()) {
            return false;
        }
        if (a.edgeEnds() != b.edgeEnds()) {
            return false;
        }
        List<Integer> order = new ArrayList<>(List.of(0));
        Set<Integer> seen = new HashSet<>(order);
        for (int k = 0; k < order.size(); k++) {
            for (int y : a.near().get(order.get(k))) {
                if (seen.add(y)) {
                    order.add(y);
                }
            }
        }
        int[] put = new int[a.near().size()];
        Arrays.fill(put, -1);
        return tryFrom(a, b, order, 0, put, new boolean[put.length]);
    }

    private int edgeEnds() {
        int n = 0;
        for (Set<Integer> s : near()) {
            n += s.size();
        }
        return n;
    }

    private static boolean tryFrom(Model a, Model b, List<Integer> order, int k, int[] put, boolean[] used) {
        if (k == order.size()) {
            Set<Set<Integer>> images = new HashSet<>();
            for (Set<Integer> plate : a.plateSets()) {
                Set<Integer> image = new HashSet<>();
                for (int c : plate) {
                    image.add(put[c]);
                }
                images.add(image);
            }
            return images.equals(b.plateSets());
        }
        int c = order.get(k);
        for (int d = 0; d < put.length; d++) {
            if (!used[d] && fits(a, b, c, d, put)) {
                put[c] = d;
                used[d] = true;
                if (tryFrom(a, b, order, k + 1, put, used)) {
                    return true;
                }
                put[c] = -1;
                used[d] = false;
            }
        }
        return false;
    }

    private static boolean fits(Model a, Model b, int c, int d, int[] put) {
        if (a.near().get(c).size() != b.near().get(d).size()) {
            return false;
        }
        for (int x = 0; x < put.length; x++) {
            if (put[x] >= 0 && a.near().get(c).contains(x) != b.near().get(d).contains(put[x])) {
                return false;
            }
        }
        return true;
    }

    int unlike() {
        List<Model> kinds = new ArrayList<>();
        for (int set = 1; set < 1 << r; set++) {
            Model next = new Model(r, m, set);
            boolean isNew = true;
            for (Model k : kinds) {
                isNew = isNew && !alike(k, next);
            }
            if (isNew) {
                kinds.add(next);
            }
        }
        return kinds.size();
    }

    // ---- snubs, duals

    List<Integer> halves() {
        List<Integer> all = new ArrayList<>();
        for (int g = 0; g < size(); g++) {
            if (elements.words.get(g).length % 2 == 0) {
                all.add(g);
            }
        }
        return all;
    }

    List<Set<Integer>> snubNear() {
        if (snubNear == null) {
            List<Integer> halves = halves();
            snubNear = new ArrayList<>();
            for (int g : halves) {
                Set<Integer> to = new TreeSet<>();
                for (int i = 0; i < r; i++) {
                    for (int j = 0; j < r; j++) {
                        if (i != j) {
                            to.add(halves.indexOf(product(product(g, 1 + i), 1 + j)));
                        }
                    }
                }
                snubNear.add(to);
            }
        }
        return snubNear;
    }

    int snubEdges() {
        Set<Set<Integer>> edges = new HashSet<>();
        for (int c = 0; c < snubNear().size(); c++) {
            for (int d : snubNear().get(c)) {
                edges.add(new HashSet<>(List.of(c, d)));
            }
        }
        return edges.size();
    }

    List<Set<Integer>> snubPlates() {
        Set<Set<Integer>> all = new HashSet<>();
        for (int i = 0; i < r; i++) {
            for (int j = 0; j < r; j++) {
                for (int g : i != j && m[i][j] > 2 ? halves() : List.<Integer>of()) {
                    Set<Integer> row = new HashSet<>();
                    for (int x = g; row.add(x); x = product(product(x, 1 + i), 1 + j)) {
                        continue;
                    }
                    all.add(row);
                }
            }
        }
        for (int h = 0; h < size(); h++) {
            if (elements.words.get(h).length % 2 == 1) {
                Set<Integer> row = new HashSet<>();
                for (int i = 0; i < r; i++) {
                    row.add(product(h, 1 + i));
                }
                all.add(row);
            }
        }
        return new ArrayList<>(all);
    }

    int snubFaces(int size) {
        int n = 0;
        for (Set<Integer> plate : snubPlates()) {
            n += plate.size() == size ? 1 : 0;
        }
        return n;
    }

    List<Set<Integer>> dualNear() {
        if (dualNear == null) {
            List<int[]> plates = plates();
            dualNear = new ArrayList<>();
            for (int p = 0; p < plates.size(); p++) {
                dualNear.add(new TreeSet<>());
            }
            for (int kind : kinds(1)) {
                for (int e = 0; e < parts(kind).size(); e++) {
                    List<Integer> at = new ArrayList<>();
                    for (int p = 0; p < plates.size(); p++) {
                        if (liesIn(kind, e, plates.get(p)[0], plates.get(p)[1])) {
                            at.add(p);
                        }
                    }
                    for (int p : at) {
                        dualNear.get(p).addAll(at);
                        dualNear.get(p).remove(p);
                    }
                }
            }
        }
        return dualNear;
    }

    int dualJoins() {
        int ends = 0;
        for (Set<Integer> s : dualNear()) {
            ends += s.size();
        }
        return ends / 2;
    }

    int dualDegree(int joins) {
        int n = 0;
        for (Set<Integer> s : dualNear()) {
            n += s.size() == joins ? 1 : 0;
        }
        return n;
    }

    int dualFar() {
        int most = 0;
        for (int p = 0; p < dualNear().size(); p++) {
            for (int s : steps(dualNear(), p)) {
                most = Math.max(most, s);
            }
        }
        return most;
    }
}
