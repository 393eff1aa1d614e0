import java.io.IOException;
import java.lang.reflect.Method;
import java.nio.file.Files;
import java.nio.file.Path;
import java.util.Set;
import java.util.TreeSet;
import java.util.regex.Matcher;
import java.util.regex.Pattern;

/** The calls that README.md shows, made in its order on one object: each must answer what stands behind it. */
public final class ReadmeTest {
    private static final Path PAGE = Path.of("README.md");
    private static final Pattern MAKING = Pattern.compile("EvenBodies x = new EvenBodies\\(\\);");
    private static final Pattern CALL = Pattern.compile("x\\.(\\w+)\\(([^)]*)\\);\\s*// (-?\\d+)\\b.*");

    private static int wrong;
    private static int calls;

    public static void main(String[] args) throws IOException, ReflectiveOperationException {
        EvenBodies x = new EvenBodies();
        boolean isCode = false;
        for (String line : Files.readAllLines(PAGE)) {
            if (line.startsWith("```")) {
                isCode = line.equals("```java");
            } else if (isCode && !MAKING.matcher(line).matches()) {
                look(x, line);
            }
        }
        namesFiles();
        fault(calls < 30, "calls shown: " + calls);
        System.out.println(calls + " calls of README.md, " + wrong + " faults");
        if (wrong != 0) {
            System.exit(1);
        }
    }

    private static void look(EvenBodies x, String line) throws ReflectiveOperationException {
        Matcher call = CALL.matcher(line);
        if (!call.matches()) {
            fault(true, "no call with its answer: " + line);
            return;
        }
        calls++;
        String[] texts = call.group(2).split(", ");
        Object[] numbers = new Object[texts.length];
        for (int k = 0; k < texts.length; k++) {
            numbers[k] = texts[k].equals("EvenBodies.NONE") ? EvenBodies.NONE : Integer.parseInt(texts[k]);
        }
        long got = ((Number) named(call.group(1)).invoke(x, numbers)).longValue();
        fault(got != Long.parseLong(call.group(3)), line + " answered " + got);
    }

    private static Method named(String name) {
        for (Method method : EvenBodies.class.getMethods()) {
            if (method.getName().equals(name) && method.getDeclaringClass() == EvenBodies.class) {
                return method;
            }
        }
        throw new IllegalStateException("no such call: " + name);
    }

    /** Tests and classes inside the class are named there, each of them. */
    private static void namesFiles() throws IOException {
        String page = Files.readString(PAGE);
        Set<String> due = new TreeSet<>();
        try (var files = Files.list(Path.of("src/test/java"))) {
            files.map(file -> file.getFileName().toString()).filter(name -> name.endsWith("Test.java"))
                .forEach(name -> due.add(name.substring(0, name.length() - ".java".length())));
        }
        for (Class<?> inside : EvenBodies.class.getDeclaredClasses()) {
            due.add(inside.getSimpleName());
        }
        due.add(".ci/run");
        for (String name : due) {
            boolean isNamed = page.contains("`" + name + "`") || page.contains("    " + name + "\n");
            fault(!isNamed, "not named: " + name);
        }
    }

    private static void fault(boolean is, String text) {
        if (is) {
            wrong++;
            System.out.println(text);
        }
    }
}
