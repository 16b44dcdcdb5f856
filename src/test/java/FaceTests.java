import java.lang.reflect.Constructor;
import java.lang.reflect.Field;
import java.lang.reflect.Method;
import java.lang.reflect.Modifier;
import java.nio.file.Files;
import java.nio.file.Path;
import java.util.ArrayList;
import java.util.Arrays;
import java.util.HashSet;
import java.util.IdentityHashMap;
import java.util.List;
import java.util.Map;
import java.util.Set;
import java.util.TreeSet;
import java.util.regex.Matcher;
import java.util.regex.Pattern;

/** The public face, what the source may not hold, and how much room an object takes. */
public final class FaceTests {
    private static final String[] FACE = {
        "boolean caves(int)", "int passage(int,int)", "boolean drop(int)", "boolean mouth(int)",
        "int order(int,int,int)", "boolean undo()", "void anew()", "int count(int)", "int look(int,int)",
        "int fewest(int)", "int plan(int,int)", "int witness(int,int)", "int judge(int)",
        "boolean place(int,int)", "int cut(int)", "int width()"};
    private static final String FORBIDDEN = "\\b(throw|throws|try|catch|synchronized|assert|package|Object|equals"
        + "|hashCode|toString|System\\.(?!arraycopy)\\w+|Thread|Random|Runtime|\\w+Exact|protected)\\b|->|::";
    private static final int MOST_ELEMENTS = 14000;
    private static final int MOST_LINES = 60;
    private static int wrong = 0;

    private static void due(String what, Object got, Object want) {
        if (!got.equals(want)) {
            wrong++;
            System.out.println(what + " is " + got + ", due is " + want);
        }
    }

    private static String signature(Method m) {
        StringBuilder s = new StringBuilder();
        for (Class<?> p : m.getParameterTypes()) {
            s.append(s.length() == 0 ? "" : ",").append(p.getName());
        }
        return m.getReturnType().getName() + " " + m.getName() + "(" + s + ")";
    }

    private static void face() {
        Set<String> open = new TreeSet<>();
        Set<String> names = new HashSet<>();
        for (Method m : CaveParty.class.getDeclaredMethods()) {
            if (!Modifier.isPrivate(m.getModifiers())) {
                open.add((Modifier.isPublic(m.getModifiers()) ? "" : "not public: ") + signature(m));
                names.add(m.getName());
            }
        }
        due("the methods", open, new TreeSet<>(Arrays.asList(FACE)));
        Set<String> fields = new TreeSet<>();
        for (Field f : CaveParty.class.getDeclaredFields()) {
            if (!Modifier.isPrivate(f.getModifiers())) {
                fields.add(Modifier.toString(f.getModifiers()) + " " + f.getType() + " " + f.getName());
            }
        }
        due("the fields", fields, Set.of("public static final int NONE"));
        due("the class is public and final", Modifier.toString(CaveParty.class.getModifiers()), "public final");
        Constructor<?>[] made = CaveParty.class.getDeclaredConstructors();
        due("constructors", made.length, 1);
        due("without arguments and public", made[0].getParameterCount() == 0
            && Modifier.isPublic(made[0].getModifiers()), true);
        for (Method m : CaveParty.class.getDeclaredMethods()) {
            due(m + " bears a name of the face", Modifier.isPrivate(m.getModifiers())
                && names.contains(m.getName()), false);
        }
        noStaticState(CaveParty.class);
        insideClasses(names);
    }

    private static void noStaticState(Class<?> c) {
        for (Field f : c.getDeclaredFields()) {
            boolean kept = Modifier.isStatic(f.getModifiers());
            due(f + " is static and not final", kept && !Modifier.isFinal(f.getModifiers()), false);
        }
    }

    private static void insideClasses(Set<String> names) {
        Class<?>[] inside = CaveParty.class.getDeclaredClasses();
        due("at most twelve classes", inside.length < 12, true);
        for (Class<?> c : inside) {
            due(c + " is static", Modifier.isStatic(c.getModifiers()), true);
            noStaticState(c);
            due(c + " has at most twenty fields", c.getDeclaredFields().length <= 20 + constants(c), true);
            for (Method m : c.getDeclaredMethods()) {
                due(m + " bears a name of the face", names.contains(m.getName()), false);
                due(m + " takes at most seven", m.getParameterCount() <= 7, true);
            }
        }
    }

    private static int constants(Class<?> c) {
        int found = 0;
        for (Field f : c.getDeclaredFields()) {
            found += Modifier.isStatic(f.getModifiers()) ? 1 : 0;
        }
        return found;
    }

    private static void source() throws Exception {
        String text = Files.readString(Path.of("src/main/java/CaveParty.java"));
        String code = text.replaceAll("(?s)/\\*.*?\\*/", "").replaceAll("//[^\n]*", "");
        Matcher m = Pattern.compile(FORBIDDEN).matcher(code);
        while (m.find()) {
            due("in the source", m.group(), "nothing of the kind");
        }
        for (String line : code.split("\n")) {
            if (line.startsWith("import ")) {
                due("import", line.matches("import java\\.util\\.(Arrays|ArrayList|List);"), true);
            }
        }
        for (char c : text.toCharArray()) {
            if (c > 126) {
                due("a sign", (int) c, "at most 126");
            }
        }
    }

    /** From a line that opens a method to the brace that closes it at the same depth. */
    private static void shortMethods() throws Exception {
        List<String> lines = Files.readAllLines(Path.of("src/main/java/CaveParty.java"));
        int methods = 0;
        for (int i = 0; i < lines.size(); i++) {
            String line = lines.get(i);
            if (!line.matches(" +[^ */].*\\w\\(.*\\) \\{") || line.matches(" +(\\} else )?(if|for|while|switch) .*")) {
                continue;
            }
            methods++;
            String end = line.substring(0, line.length() - line.stripLeading().length()) + "}";
            int last = i;
            while (last < lines.size() && !lines.get(last).equals(end)) {
                last++;
            }
            due(line.strip() + " is longer than sixty lines", last - i > MOST_LINES, false);
        }
        due("methods were found", methods >= FACE.length, true);
    }

    /** All objects that can be come to from x, with their fields and elements. */
    private static int room(Object x) throws Exception {
        Map<Object, Boolean> seen = new IdentityHashMap<>();
        List<Object> open = new ArrayList<>();
        open.add(x);
        int room = 0;
        for (int i = 0; i < open.size(); i++) {
            Object o = open.get(i);
            if (seen.put(o, true) != null) {
                continue;
            }
            if (o instanceof int[] row) {
                room += row.length;
                continue;
            }
            for (Field f : o.getClass().getDeclaredFields()) {
                if (!Modifier.isStatic(f.getModifiers())) {
                    room++;
                    f.setAccessible(true);
                    Object held = f.getType().isPrimitive() ? null : f.get(o);
                    if (held != null) {
                        open.add(held);
                    }
                }
            }
        }
        return room;
    }

    private static void rooms() throws Exception {
        CaveParty x = new CaveParty();
        int fresh = room(x);
        System.out.println("a new object has " + fresh + " fields and elements");
        due("that is at most " + MOST_ELEMENTS, fresh <= MOST_ELEMENTS, true);
        x.caves(6);
        x.fewest(0);
        due("a plan takes little more", room(x) <= fresh + 100, true);
    }

    public static void main(String[] args) throws Exception {
        face();
        source();
        shortMethods();
        rooms();
        System.out.println(wrong == 0 ? "all is as due" : wrong + " things are not as due");
        if (wrong != 0) {
            System.exit(1);
        }
    }
}
