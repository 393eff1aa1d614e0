import java.lang.reflect.Method;
import java.util.ArrayList;
import java.util.Collections;
import java.util.List;
import java.util.Random;

/** Runs of 512 calls with numbers of all sorts, from fixed seeds, against the model. */
public final class RandomRunsTest {
    private static final int RUNS = 60;
    private static final int CALLS = 512;

    public static void main(String[] args) {
        List<String> names = new ArrayList<>(Pair.methods().keySet());
        Collections.sort(names);
        for (int run = 0; run < RUNS; run++) {
            Random random = new Random(1000 + run);
            Pair pair = new Pair();
            for (int k = 0; k < CALLS; k++) {
                int pick = random.nextInt(10);
                if (pick < 3) {
                    change(pair, random);
                } else {
                    ask(pair, random, names.get(random.nextInt(names.size())));
                }
            }
        }
        Pair.end();
    }

    private static int some(Random random, int below) {
        return random.nextInt(below);
    }

    private static void change(Pair pair, Random random) {
        int b = some(random, 4);
        switch (some(random, 5)) {
            case 0:
                pair.call("body", b, 1 + some(random, 10) % 4);
                break;
            case 1:
                int[] usual = {2, 3, 2, 3, 2, 4, 5, 6};
                pair.call("angle", b, some(random, 4), some(random, 4), usual[some(random, 8)]);
                break;
            case 2:
                pair.call("ring", b, 1 + some(random, 15));
                break;
            case 3:
                int[] orders = {0, 1, 10, 12, 21, 102, 120, 201, 210, 123, 132, 213, 231, 1230, 3210, 2130, 3012};
                pair.call("order", b, orders[some(random, orders.length)], some(random, 4));
                break;
            default:
                wholeBody(pair, random, b);
        }
    }

    private static void wholeBody(Pair pair, Random random, int b) {
        int[][] rows = {{3, 3, 2}, {3, 4, 2}, {5, 3, 2}, {6, 2, 2}, {3, 3, 3}, {4, 3, 3}, {3, 2, 5}, {4, 2, 6},
            {2, 3, 5}, {3, 3, 5}, {2, 2, 2}};
        int[] row = rows[some(random, rows.length)];
        int r = row[2] == 2 ? 3 : 4;
        pair.call("body", b, r);
        for (int i = 0; i + 1 < r; i++) {
            pair.call("angle", b, i, i + 1, row[i]);
        }
        pair.call("ring", b, 1 + some(random, (1 << r) - 1));
    }

    private static void ask(Pair pair, Random random, String name) {
        Method method = Pair.methods().get(name);
        int[] a = new int[method.getParameterCount()];
        for (int k = 0; k < a.length; k++) {
            a[k] = k == 0 ? body(random) : number(random);
        }
        if (name.equals("element")) {
            a[1] = word(random);
        }
        pair.call(name, a);
    }

    private static int body(Random random) {
        return some(random, 30) == 0 ? new int[] {-1, 4, Integer.MIN_VALUE, Integer.MAX_VALUE}[some(random, 4)]
            : some(random, 4);
    }

    private static int number(Random random) {
        switch (some(random, 12)) {
            case 0: return new int[] {-1, -2, Integer.MIN_VALUE, Integer.MAX_VALUE, 500, 501}[some(random, 6)];
            case 1: return some(random, 500);
            case 2: return some(random, 60);
            case 3: return some(random, 24);
            case 4: return 1 << some(random, 4);
            default: return some(random, 8);
        }
    }

    private static int word(Random random) {
        int word = 0;
        for (int k = some(random, 10); k > 0; k--) {
            word = word * 10 + 1 + some(random, 4);
        }
        return some(random, 10) == 0 ? number(random) : word;
    }
}
