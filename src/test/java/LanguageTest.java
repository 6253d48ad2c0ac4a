import java.lang.reflect.Constructor;
import java.lang.reflect.Field;
import java.lang.reflect.Method;
import java.lang.reflect.Modifier;
import java.nio.file.Files;
import java.nio.file.Path;
import java.util.Arrays;
import java.util.List;
import java.util.Set;
import java.util.TreeSet;
import java.util.regex.Matcher;
import java.util.regex.Pattern;
import java.util.stream.Collectors;

/** What can be seen of the rules of LANGUAGE.md without judgement: the face, forbidden words, lengths and counts. */
public final class LanguageTest {
    private static final Checks CHECKS = new Checks("LanguageTest");

    private static final Set<String> FACE = new TreeSet<>(List.of(
            "int field(int)", "int feed(int, int, int, int, int)", "int tell(int, int)", "int fault()", "int count(int)", "int step(int, int)",
            "int at(int, boolean, int, int, int)", "int make(int, int, int, int)", "int put(int, int, int, int)", "int fit(int)", "int undo()",
            "int of(int, int)", "int term(int, int, int, int)", "int number(int, int, int, int)", "int value(int, int, int, int)",
            "boolean same(int, int, boolean)", "int witness(int, int)", "int factor(int, int, int)", "int often(int, int, int, int, int)",
            "int say(int)", "int said(int)"));

    private static final String[] FORBIDDEN = {
        "\\btry\\b", "\\bcatch\\b", "\\bfinally\\b", "\\bsynchronized\\b", "\\bassert\\b", "->", "::", "\\bpackage\\b", "\\bprotected\\b",
        "\\bLong\\b", "\\bdouble\\b", "\\bfloat\\b", "Exact\\(", "\\bvar\\b", "\\bthrow\\b(?! new (NoSuchElementException|IllegalArgumentException)\\(\")",
        "System\\.(?!arraycopy)", "\\bObject\\b", "\\bHashMap\\b", "\\bRandom\\b", "\\bThread\\b", "static \\{"};

    public static void main(String[] args) throws Exception {
        checkFace();
        Class<?>[] inside = StraightPolys.class.getDeclaredClasses();
        CHECKS.dueText("at most twelve classes", "true", Boolean.toString(inside.length + 1 <= 12));
        for (Class<?> one : inside) {
            checkInside(one);
        }
        String source = Files.readString(Path.of("src/main/java/StraightPolys.java"));
        checkWords(source);
        checkMethods(source);
        CHECKS.finish();
    }

    private static String signature(Method m) {
        String parameters = Arrays.stream(m.getParameterTypes()).map(Class::getName).collect(Collectors.joining(", "));
        return m.getReturnType().getName() + " " + m.getName() + "(" + parameters + ")";
    }

    private static void checkFace() throws Exception {
        Set<String> found = new TreeSet<>();
        for (Method m : StraightPolys.class.getDeclaredMethods()) {
            if (Modifier.isPublic(m.getModifiers())) {
                found.add(signature(m));
            } else {
                checkNoFaceName(m);
                CHECKS.dueText(m.getName() + " is private", "true", Boolean.toString(Modifier.isPrivate(m.getModifiers())));
            }
        }
        CHECKS.dueText("the face", FACE.toString(), found.toString());
        for (Field f : StraightPolys.class.getDeclaredFields()) {
            boolean isFine = f.getName().equals("NONE") ? Modifier.isPublic(f.getModifiers()) : Modifier.isPrivate(f.getModifiers());
            CHECKS.dueText(f.getName() + " is as it must be", "true", Boolean.toString(isFine));
        }
        Constructor<?>[] made = StraightPolys.class.getDeclaredConstructors();
        CHECKS.dueText("one public constructor", "true", Boolean.toString(made.length == 1 && Modifier.isPublic(made[0].getModifiers())));
        CHECKS.dueText("final", "true", Boolean.toString(Modifier.isFinal(StraightPolys.class.getModifiers())));
        checkFields(StraightPolys.class);
    }

    private static void checkNoFaceName(Method m) {
        boolean isTaken = FACE.stream().anyMatch(one -> one.contains(" " + m.getName() + "("));
        CHECKS.dueText(m.getName() + " has a name of the face", "false", Boolean.toString(isTaken));
    }

    private static void checkInside(Class<?> one) {
        int flags = one.getModifiers();
        CHECKS.dueText(one + " is static and not open", "true",
                Boolean.toString(Modifier.isStatic(flags) && !Modifier.isPublic(flags) && !Modifier.isProtected(flags)));
        for (Method m : one.getDeclaredMethods()) {
            checkNoFaceName(m);
        }
        checkFields(one);
    }

    private static void checkFields(Class<?> one) {
        int fields = 0;
        for (Field f : one.getDeclaredFields()) {
            if (Modifier.isStatic(f.getModifiers())) {
                CHECKS.dueText(f + " is final", "true", Boolean.toString(Modifier.isFinal(f.getModifiers())));
            } else {
                fields++;
            }
        }
        CHECKS.dueText(one + " has at most twenty fields", "true", Boolean.toString(fields <= 20));
    }

    private static void checkWords(String source) {
        String code = source.replaceAll("(?s)/\\*.*?\\*/", "").replaceAll("//.*", "");
        for (String word : FORBIDDEN) {
            Matcher found = Pattern.compile(word).matcher(code);
            CHECKS.dueText("forbidden: " + word, "", found.find() ? code.substring(found.start(), Math.min(code.length(), found.start() + 30)) : "");
        }
        CHECKS.dueText("signs 1 to 127", "true", Boolean.toString(source.chars().allMatch(ch -> ch > 0 && ch < 128)));
        Matcher imports = Pattern.compile("import ([\\w.]+);").matcher(code);
        while (imports.find()) {
            CHECKS.dueText("import " + imports.group(1), "true",
                    Boolean.toString(Set.of("java.util.Arrays", "java.util.NoSuchElementException").contains(imports.group(1))));
        }
    }

    private static void checkMethods(String source) {
        String[] lines = source.split("\n");
        Pattern head = Pattern.compile("^( {4}| {8})(?=\\w)[\\w\\[\\]<> ]+\\(([^)]*)\\)[^;{]*\\{$");
        for (int i = 0; i < lines.length; i++) {
            Matcher found = head.matcher(lines[i]);
            if (!found.find()) {
                continue;
            }
            int end = i;
            while (!lines[end].equals(found.group(1) + "}")) {
                end++;
            }
            CHECKS.dueText("short: " + lines[i].trim(), "true", Boolean.toString(end - i < 60));
            CHECKS.dueText("at most seven parameters: " + lines[i].trim(), "true", Boolean.toString(found.group(2).split(",").length <= 7));
        }
    }
}
