import java.io.IOException;
import java.lang.reflect.Constructor;
import java.lang.reflect.Field;
import java.lang.reflect.Member;
import java.lang.reflect.Method;
import java.lang.reflect.Modifier;
import java.nio.file.Files;
import java.nio.file.Path;
import java.util.ArrayList;
import java.util.HashSet;
import java.util.List;
import java.util.Set;
import java.util.TreeSet;
import java.util.regex.Matcher;
import java.util.regex.Pattern;

/** The public face as the document has it, and the rules of LANGUAGE.md that can be seen from outside. */
public final class LanguageTest {
    private static final String SOURCE = "src/main/java/EvenBodies.java";
    private static final String DOCUMENT = "../shared/DOC.md";
    private static int wrong;

    public static void main(String[] args) throws IOException {
        String code = withoutComments(Files.readString(Path.of(SOURCE)));
        face(Files.readString(Path.of(DOCUMENT)));
        members();
        words(code);
        methods(code);
        loops(code);
        System.out.println(wrong == 0 ? "the rules are kept" : wrong + " rules are not kept");
        if (wrong != 0) {
            System.exit(1);
        }
    }

    private static void fault(boolean is, String text) {
        if (is) {
            wrong++;
            System.out.println(text);
        }
    }

    private static String withoutComments(String text) {
        return text.replaceAll("(?s)/\\*.*?\\*/", " ").replaceAll("//[^\n]*", " ");
    }

    private static void face(String document) {
        Set<String> due = new TreeSet<>();
        Matcher lines = Pattern.compile("    public (int|long) (\\w+)\\((.*?)\\);").matcher(document);
        while (lines.find()) {
            due.add(lines.group(1) + " " + lines.group(2) + "(" + lines.group(3).replaceAll("int \\w+", "int") + ")");
        }
        Set<String> got = new TreeSet<>();
        for (Method method : EvenBodies.class.getDeclaredMethods()) {
            if (Modifier.isPublic(method.getModifiers())) {
                StringBuilder types = new StringBuilder();
                for (Class<?> type : method.getParameterTypes()) {
                    types.append(types.length() == 0 ? "" : ", ").append(type.getName());
                }
                got.add(method.getReturnType().getName() + " " + method.getName() + "(" + types + ")");
            }
        }
        fault(due.size() != 44, "the document's face was not found: " + due.size());
        fault(!due.equals(got), "rule 1: the face is " + got + ", due is " + due);
        fault(EvenBodies.NONE != -1 || EvenBodies.BAD != -2 || EvenBodies.NO != -3 || EvenBodies.SPENT != -5,
            "rule 1: the constants");
    }

    private static void members() {
        int flags = EvenBodies.class.getModifiers();
        fault(!Modifier.isPublic(flags) || !Modifier.isFinal(flags), "rule 1: public and final");
        Set<String> constants = Set.of("NONE", "BAD", "NO", "SPENT");
        Set<String> open = new HashSet<>();
        for (Field field : EvenBodies.class.getDeclaredFields()) {
            boolean isConstant = constants.contains(field.getName());
            fault(isConstant != Modifier.isPublic(field.getModifiers()), "rule 1: field " + field.getName());
            fault(!isConstant && !Modifier.isPrivate(field.getModifiers()), "rule 1: field " + field.getName());
        }
        for (Method method : EvenBodies.class.getDeclaredMethods()) {
            boolean isPublic = Modifier.isPublic(method.getModifiers());
            fault(!isPublic && !Modifier.isPrivate(method.getModifiers()), "rule 1: method " + method.getName());
            if (isPublic) {
                open.add(method.getName());
            }
        }
        for (Method method : EvenBodies.class.getDeclaredMethods()) {
            fault(Modifier.isPrivate(method.getModifiers()) && open.contains(method.getName()),
                "rule 1: the name of a public method: " + method);
        }
        Constructor<?>[] makers = EvenBodies.class.getDeclaredConstructors();
        fault(makers.length != 1 || !Modifier.isPublic(makers[0].getModifiers()), "rule 1: the constructor");
        List<Class<?>> all = new ArrayList<>(List.of(EvenBodies.class.getDeclaredClasses()));
        fault(all.size() > 11, "rule 11: classes");
        for (Class<?> inside : all) {
            fault(!Modifier.isStatic(inside.getModifiers()), "rule 2: " + inside);
            fault(Modifier.isPublic(inside.getModifiers()) || Modifier.isProtected(inside.getModifiers()),
                "rule 1: " + inside);
            fault(inside.getDeclaredClasses().length > 0, "rule 2: a class inside " + inside);
            fault(inside.getDeclaredFields().length > 20, "rule 11: fields of " + inside);
            for (Method method : inside.getDeclaredMethods()) {
                fault(open.contains(method.getName()), "rule 1: the name of a public method: " + method);
                noSynthetic(method);
            }
            for (Field field : inside.getDeclaredFields()) {
                fault(Modifier.isStatic(field.getModifiers()), "rule 5: " + field);
                noSynthetic(field);
            }
        }
    }

    private static void noSynthetic(Member member) {
        fault(member.isSynthetic(), "rule 2: made by the compiler: " + member);
    }

    private static void words(String code) {
        String[] out = {"\\bthrow\\b", "\\btry\\b", "\\bcatch\\b", "\\bsynchronized\\b", "\\bassert\\b", "->", "::",
            "Exact\\b", "\\bstatic\\s*\\{", "\\bdouble\\b", "\\bfloat\\b", "\\bprotected\\b", "\\bhashCode\\b",
            "\\btoString\\b", "\\bequals\\b", "\\bThread\\b", "\\bRandom\\b", "\\bObject\\b", "@", "\\bwhile\\s*\\(true",
            "for\\s*\\(\\s*;", "\\bvar\\b", "\\bpackage\\b", "\\bnative\\b", "\\bvolatile\\b"};
        for (String word : out) {
            fault(Pattern.compile(word).matcher(code).find(), "ruled out: " + word);
        }
        Matcher imports = Pattern.compile("\\bimport\\s+([\\w.]+)").matcher(code);
        while (imports.find()) {
            fault(!imports.group(1).equals("java.util.Arrays"), "rule 4: import of " + imports.group(1));
        }
        Set<String> known = Set.of("System.arraycopy", "Arrays.fill", "Integer.bitCount", "Long.bitCount", "Math.max",
            "Math.min");
        Matcher library = Pattern.compile("\\b(System|Arrays|Integer|Long|Math|Character|String)\\.\\w+").matcher(code);
        while (library.find()) {
            String call = library.group();
            fault(!known.contains(call) && !call.equals("Arrays;"), "rule 4: " + call);
        }
        for (char c : code.toCharArray()) {
            fault(c > 127, "a sign above 127");
        }
    }

    private static void methods(String code) {
        Matcher heads = Pattern.compile("\n {4,8}(?! )[\\w\\[\\] ]+ (\\w+)\\(([^)]*)\\) \\{\n").matcher(code);
        int found = 0;
        while (heads.find()) {
            found++;
            fault(heads.group(2).split(",").length > 7, "rule 11: parameters of " + heads.group(1));
            int depth = 1;
            int lines = 1;
            for (int k = heads.end(); k < code.length() && depth > 0; k++) {
                char c = code.charAt(k);
                depth += c == '{' ? 1 : c == '}' ? -1 : 0;
                lines += c == '\n' ? 1 : 0;
            }
            fault(lines > 60, "rule 11: lines of " + heads.group(1));
        }
        fault(found < 100, "the methods were not found: " + found);
    }

    /** Each loop's own lines show its end: what it compares with a bound is what it changes. */
    private static void loops(String code) {
        Matcher fors = Pattern.compile("\\bfor \\(int (\\w+) = [^;]+;([^;]+); (\\w+)( ?\\W)").matcher(code);
        int found = 0;
        while (fors.find()) {
            found++;
            String counter = fors.group(1);
            boolean isCompared = Pattern.compile("\\b" + counter + " [<>]").matcher(fors.group(2)).find();
            fault(!isCompared || !counter.equals(fors.group(3)), "rule 9: " + fors.group());
        }
        int all = count("\\bfor \\(", code);
        fault(found != all || all < 50, "rule 9: " + found + " of " + all + " loops have a counter");
        fault(count("\\bdo \\{", code) > 0, "rule 9: a loop without a head");
        Matcher whiles = Pattern.compile("\\bwhile \\(.* (\\w+) < \\w+\\) \\{[^}]*\\b(\\w+)\\+\\+;").matcher(code);
        int counted = 0;
        while (whiles.find()) {
            counted += whiles.group(1).equals(whiles.group(2)) ? 1 : 0;
        }
        fault(counted != count("\\bwhile \\(", code), "rule 9: a loop that counts nothing");
    }

    private static int count(String pattern, String code) {
        Matcher places = Pattern.compile(pattern).matcher(code);
        int count = 0;
        while (places.find()) {
            count++;
        }
        return count;
    }
}
