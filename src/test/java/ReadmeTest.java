import java.lang.reflect.Method;
import java.nio.file.Files;
import java.nio.file.Path;
import java.util.regex.Matcher;
import java.util.regex.Pattern;

/** The rows of README.md's example answer what stands behind them, and README.md names every call of the face. */
public final class ReadmeTest {
    private static final Pattern ROW = Pattern.compile("(?m)^s\\.(\\w+)\\(([^)]*)\\); +// (-?\\d+)");

    public static void main(String[] args) throws Exception {
        Checks checks = new Checks("ReadmeTest");
        String readme = Files.readString(Path.of("README.md"));
        StraightPolys s = new StraightPolys();
        Matcher rows = ROW.matcher(readme);
        int found = 0;
        while (rows.find()) {
            found++;
            checks.dueText(rows.group(), rows.group(3), answer(s, rows.group(1), rows.group(2)));
        }
        checks.dueText("rows of the example", Boolean.toString(true), Boolean.toString(found >= 10));
        for (Method one : StraightPolys.class.getDeclaredMethods()) {
            if (java.lang.reflect.Modifier.isPublic(one.getModifiers())) {
                checks.dueText("README.md names " + one.getName(), "true", Boolean.toString(readme.contains("`" + one.getName() + "(")));
            }
        }
        checks.finish();
    }

    private static String answer(StraightPolys s, String name, String told) throws Exception {
        for (Method one : StraightPolys.class.getDeclaredMethods()) {
            if (one.getName().equals(name)) {
                return String.valueOf(one.invoke(s, values(told)));
            }
        }
        return "no such call";
    }

    private static Object[] values(String told) {
        String[] parts = told.isEmpty() ? new String[0] : told.split(", ");
        Object[] values = new Object[parts.length];
        for (int i = 0; i < parts.length; i++) {
            boolean isTruth = parts[i].equals("true") || parts[i].equals("false");
            if (isTruth) {
                values[i] = Boolean.valueOf(parts[i]);
            } else {
                values[i] = Integer.decode(parts[i]);
            }
        }
        return values;
    }
}
