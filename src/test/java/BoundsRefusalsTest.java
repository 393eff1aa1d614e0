import java.io.IOException;
import java.lang.reflect.Method;
import java.lang.reflect.Modifier;
import java.util.ArrayList;
import java.util.Arrays;
import java.util.HashMap;
import java.util.HashSet;
import java.util.List;
import java.util.Map;
import java.util.Set;

/**
 * What is refused, in which order, and that it changes nothing: for every call of the face. Each call is told with a
 * letter for each of its numbers; what a letter takes, and what it does not, stands in right() and wrong().
 */
public final class BoundsRefusalsTest {
    /** Calls that need no group: BAD alone. */
    private static final String[] FREE = {"body br", "angle bijm", "ring bq", "order bub", "about baj", "kinds bd",
        "kind bdx"};
    /** BAD, then SPENT. */
    private static final String[] GROUP = {"size b", "length bg", "letter bgx", "element bw", "product bgg",
        "inverse bg", "turns bg", "classSize bg", "ofLength bx", "mirrors b", "parts bk", "partOf bkg", "least bkp",
        "corners bkp", "cornerOf bkpx", "liesIn bkpkp", "within bkkp", "count bd", "law b", "moves bgc", "degree bc",
        "far bcc", "layer bx", "ways bccn", "coloured b"};
    /** BAD, then SPENT, then NO. */
    private static final String[] THREE = {"round bo", "alike bb", "unlike b", "snub bt", "snubLaw b", "snubDegree bh",
        "snubFar bhh", "snubFaces bz", "dual bt", "dualDegree bx", "dualFar b"};

    /** What the four bodies of the object that is asked are. */
    private static final int WHOLE = 0, ENDLESS = 1, FOUR_SPENT = 2, NOT_THREE = 3;

    private static final Map<String, Method> METHODS = new HashMap<>();

    public static void main(String[] args) throws IOException, ReflectiveOperationException {
        Due.begin();
        for (Method method : EvenBodies.class.getDeclaredMethods()) {
            if (Modifier.isPublic(method.getModifiers())) {
                METHODS.put(method.getName(), method);
            }
        }
        allCalls();
        badFirst();
        thenSpent();
        thenNo();
        notSoMany();
        twoBodies();
        nothingChanged();
        Due.end();
    }

    private static EvenBodies bodies() {
        EvenBodies x = new EvenBodies();
        Due.put(x, WHOLE, 1, 4, 3);
        Due.put(x, ENDLESS, 1, 6, 3);
        Due.put(x, FOUR_SPENT, 1, 3, 3, 5);
        Due.put(x, NOT_THREE, 1, 5);
        return x;
    }

    /** A number that is as told whatever the group of the body is. */
    private static int right(char letter, int mirrors) {
        return switch (letter) {
            case 'r', 'q', 'j' -> 1;
            case 'u' -> mirrors == 2 ? 1 : mirrors == 3 ? 12 : 123;
            case 'm', 'z' -> 3;
            default -> 0;
        };
    }

    /** Numbers that are not as told whatever the group of the body is; with i 0, j 0 is not as told either. */
    private static int[] wrong(char letter, int mirrors) {
        return switch (letter) {
            case 'b' -> new int[] {Due.LOW, -1, 4, Due.HIGH};
            case 'r' -> new int[] {Due.LOW, -1, 0, 5, Due.HIGH};
            case 'i' -> new int[] {Due.LOW, -1, 1, mirrors, Due.HIGH};
            case 'j' -> new int[] {Due.LOW, -1, mirrors, Due.HIGH};
            case 'm' -> new int[] {Due.LOW, -1, 0, 1, 7, Due.HIGH};
            case 'q' -> new int[] {Due.LOW, -1, 0, 1 << mirrors, Due.HIGH};
            case 'u' -> new int[] {Due.LOW, -1, 0, 11, 1234, Due.HIGH};
            case 'a', 't' -> new int[] {Due.LOW, -1, 3, Due.HIGH};
            case 'd' -> new int[] {Due.LOW, -1, mirrors + 1, Due.HIGH};
            case 'w' -> new int[] {Due.LOW, -1, mirrors + 1, 10, 101, Due.HIGH};
            case 'k' -> new int[] {Due.LOW, -1, 2, 1 << mirrors, Due.HIGH};
            case 'n' -> new int[] {Due.LOW, -1, 13, Due.HIGH};
            case 'o' -> new int[] {Due.LOW, -2};
            case 'z' -> new int[] {Due.LOW, -1, 0, 1};
            case 'g', 'p', 'c', 'h', 'x' -> new int[] {Due.LOW, -1};
            default -> throw new IllegalArgumentException("letter " + letter);
        };
    }

    private static String nameOf(String call) {
        return call.substring(0, call.indexOf(' '));
    }

    private static String lettersOf(String call) {
        return call.substring(call.indexOf(' ') + 1);
    }

    private static int mirrorsOf(int b) {
        return b == FOUR_SPENT ? 4 : b == NOT_THREE ? 2 : 3;
    }

    private static int[] rightNumbers(String call, int b) {
        String letters = lettersOf(call);
        int[] numbers = new int[letters.length()];
        for (int k = 0; k < numbers.length; k++) {
            numbers[k] = letters.charAt(k) == 'b' ? b : right(letters.charAt(k), mirrorsOf(b));
        }
        return numbers;
    }

    /** Right numbers but for one, in all ways. */
    private static List<int[]> wrongNumbers(String call, int b) {
        List<int[]> all = new ArrayList<>();
        String letters = lettersOf(call);
        for (int k = 0; k < letters.length(); k++) {
            for (int number : wrong(letters.charAt(k), mirrorsOf(b))) {
                int[] numbers = rightNumbers(call, b);
                // Of about() what is asked must be 2, that the mirror be looked at.
                if (call.startsWith("about") && letters.charAt(k) == 'j') {
                    numbers[1] = 2;
                }
                numbers[k] = number;
                all.add(numbers);
            }
        }
        return all;
    }

    private static long ask(EvenBodies x, String call, int[] numbers) throws ReflectiveOperationException {
        Object[] boxed = Arrays.stream(numbers).boxed().toArray();
        return ((Number) METHODS.get(nameOf(call)).invoke(x, boxed)).longValue();
    }

    private static void dueOf(EvenBodies x, String call, int[] numbers, long want) throws ReflectiveOperationException {
        Due.due(nameOf(call) + Arrays.toString(numbers), ask(x, call, numbers), want);
    }

    private static List<String> calls(String[]... groups) {
        List<String> all = new ArrayList<>();
        for (String[] group : groups) {
            all.addAll(List.of(group));
        }
        return all;
    }

    private static void allCalls() {
        Due.terms("Refused, changing nothing, the first of");
        Set<String> told = new HashSet<>(List.of("digest"));
        for (String call : calls(FREE, GROUP, THREE)) {
            told.add(nameOf(call));
            Due.due("numbers of " + nameOf(call), lettersOf(call).length(), METHODS.get(nameOf(call)).getParameterCount());
        }
        Due.due("calls of the face that are looked at here", told.equals(METHODS.keySet()) ? 1 : 0, 1);
    }

    private static void badFirst() throws ReflectiveOperationException {
        Due.terms("BAD -2 a number is not as told");
        for (String call : calls(FREE, GROUP, THREE)) {
            for (int b = 0; b < 4; b++) {
                EvenBodies x = bodies();
                for (int[] numbers : wrongNumbers(call, b)) {
                    dueOf(x, call, numbers, -2);
                }
            }
        }
    }

    private static void thenSpent() throws ReflectiveOperationException {
        Due.terms("SPENT -5");
        for (int b = ENDLESS; b <= FOUR_SPENT; b++) {
            for (String call : calls(GROUP, THREE)) {
                dueOf(bodies(), call, rightNumbers(call, b), -5);
            }
            for (String call : FREE) {
                long answer = ask(bodies(), call, rightNumbers(call, b));
                Due.due(nameOf(call) + " is not refused", answer >= 0 ? 1 : 0, 1);
            }
        }
    }

    private static void thenNo() throws ReflectiveOperationException {
        Due.terms("NO -3 as told");
        for (String call : THREE) {
            dueOf(bodies(), call, rightNumbers(call, NOT_THREE), -3);
            long answer = ask(bodies(), call, rightNumbers(call, WHOLE));
            Due.due(nameOf(call) + " of three mirrors is not refused", answer >= 0 ? 1 : 0, 1);
        }
        for (String call : GROUP) {
            long answer = ask(bodies(), call, rightNumbers(call, NOT_THREE));
            // The empty word has no letter 0: that is told, not refused.
            Due.due(nameOf(call) + " of two mirrors is not refused", answer >= Due.NONE ? 1 : 0, 1);
        }
    }

    /** How many there are is known of a whole group alone: of a spent one no number is too high for it. */
    private static void notSoMany() throws ReflectiveOperationException {
        Due.terms("Refused, changing nothing, the first of: BAD -2 a number is not as told; SPENT -5; NO -3 as told.");
        int[] high = {384, 500, Due.HIGH};
        for (String call : calls(GROUP, THREE)) {
            for (int k = 0; k < lettersOf(call).length(); k++) {
                char letter = lettersOf(call).charAt(k);
                if ("gpch".indexOf(letter) < 0) {
                    continue;
                }
                for (int number : high) {
                    for (int b = 0; b < 4; b++) {
                        int[] numbers = rightNumbers(call, b);
                        numbers[k] = number;
                        boolean isSpent = b == ENDLESS || b == FOUR_SPENT;
                        boolean isNo = b == NOT_THREE && letter == 'h';
                        dueOf(bodies(), call, numbers, isSpent ? -5 : isNo ? -3 : -2);
                    }
                }
            }
        }
    }

    private static void twoBodies() {
        Due.promise(35, "BAD; SPENT; NO: one has not three MIRRORS.");
        EvenBodies x = bodies();
        int[][] due = {{1, -5, -5, -3}, {-5, -5, -5, -5}, {-5, -5, -5, -5}, {-3, -5, -5, -3}};
        for (int b = 0; b < 4; b++) {
            for (int other = 0; other < 4; other++) {
                Due.due("alike(" + b + ", " + other + ")", x.alike(b, other), due[b][other]);
            }
            Due.due("alike(" + b + ", 4)", x.alike(b, 4), -2);
            Due.due("alike(-1, " + b + ")", x.alike(-1, b), -2);
        }
    }

    // ---- changing nothing

    private static List<Long> answers(EvenBodies x) {
        List<Long> all = new ArrayList<>();
        all.add(x.digest());
        for (int b = 0; b < 4; b++) {
            for (int i = 0; i < mirrorsOf(b); i++) {
                all.add((long) x.about(b, 2, i));
                all.add((long) x.kinds(b, i));
            }
            int[] some = {x.about(b, 0, 0), x.about(b, 1, 0), x.size(b), x.count(b, 0), x.law(b), x.far(b, 0, 1),
                x.coloured(b), x.layer(b, 2), x.mirrors(b), x.parts(b, 3), x.cornerOf(b, 1, 0, 1), x.element(b, 121)};
            for (int answer : some) {
                all.add((long) answer);
            }
        }
        int[] some = {x.round(WHOLE, Due.NONE), x.round(WHOLE, 0), x.unlike(WHOLE), x.snub(WHOLE, 2),
            x.snubFar(WHOLE, 0, 23), x.dual(WHOLE, 1), x.dualFar(WHOLE), x.classSize(WHOLE, 4), x.moves(WHOLE, 9, 3)};
        for (int answer : some) {
            all.add((long) answer);
        }
        return all;
    }

    private static void nothingChanged() throws ReflectiveOperationException {
        Due.terms("Refused, changing nothing");
        List<Long> before = answers(bodies());
        for (String call : calls(FREE, GROUP, THREE)) {
            EvenBodies asked = bodies();
            answers(asked);
            EvenBodies unasked = bodies();
            for (int b = 0; b < 4; b++) {
                List<int[]> refused = wrongNumbers(call, b);
                if (!List.of(FREE).contains(call) && (b == ENDLESS || b == FOUR_SPENT)
                        || List.of(THREE).contains(call) && b == NOT_THREE) {
                    refused.add(rightNumbers(call, b));
                }
                for (int[] numbers : refused) {
                    boolean isRefused = ask(asked, call, numbers) <= Due.BAD && ask(unasked, call, numbers) <= Due.BAD;
                    Due.due(nameOf(call) + Arrays.toString(numbers) + " is refused", isRefused ? 1 : 0, 1);
                }
            }
            Due.due("all is as before " + nameOf(call), answers(asked).equals(before) ? 1 : 0, 1);
            Due.due("all is as without " + nameOf(call), answers(unasked).equals(before) ? 1 : 0, 1);
        }
    }
}
