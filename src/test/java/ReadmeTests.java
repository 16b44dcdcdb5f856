import java.lang.reflect.Method;
import java.lang.reflect.Modifier;
import java.nio.file.Files;
import java.nio.file.Path;
import java.util.regex.Matcher;
import java.util.regex.Pattern;

/** README.md holds: the example's calls answer what stands beside them, and each call of the face is told. */
public final class ReadmeTests extends Checks {
    private static final Pattern CALL = Pattern.compile("x\\.(\\w+)\\((.*)\\); *// (true|false|-?\\d+)(: .*)?");
    private static final int FEWEST_CALLS = 20;

    private static Method named(String name) {
        for (Method m : CaveParty.class.getDeclaredMethods()) {
            if (Modifier.isPublic(m.getModifiers()) && m.getName().equals(name)) {
                return m;
            }
        }
        throw new IllegalStateException("README.md uses " + name + ", which the class does not have");
    }

    private static Object[] numbers(String list) {
        String[] parts = list.isBlank() ? new String[0] : list.split(", ");
        Object[] values = new Object[parts.length];
        for (int i = 0; i < parts.length; i++) {
            values[i] = parts[i].equals("CaveParty.NONE") ? NONE : Integer.parseInt(parts[i]);
        }
        return values;
    }

    private static void answersAsWritten(String example) throws Exception {
        CaveParty x = new CaveParty();
        int calls = 0;
        for (String line : example.split("\n")) {
            if (!line.startsWith("x.")) {
                continue;
            }
            Matcher m = CALL.matcher(line);
            due("a line that can be read: " + line, m.matches(), true);
            if (m.matches()) {
                calls++;
                String got = String.valueOf(named(m.group(1)).invoke(x, numbers(m.group(2))));
                due(line + " (answered " + got + "): as written", got.equals(m.group(3)), true);
            }
        }
        due("calls in the example: enough", calls >= FEWEST_CALLS, true);
    }

    private static void tellsOfEachCall(String page) {
        for (Method m : CaveParty.class.getDeclaredMethods()) {
            if (Modifier.isPublic(m.getModifiers())) {
                due("a row for " + m.getName(), page.contains("\n| `" + m.getName() + "("), true);
            }
        }
    }

    public static void main(String[] args) throws Exception {
        String page = Files.readString(Path.of("README.md"));
        Matcher example = Pattern.compile("(?s)```java\n(.*?)```").matcher(page);
        boolean there = example.find();
        due("an example", there, true);
        answersAsWritten(there ? example.group(1) : "");
        tellsOfEachCall(page);
        tellAndEnd();
    }
}
