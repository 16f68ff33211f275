import java.io.IOException;
import java.lang.reflect.Array;
import java.lang.reflect.Field;
import java.lang.reflect.Method;
import java.lang.reflect.Modifier;
import java.nio.file.Files;
import java.nio.file.Path;
import java.util.ArrayList;
import java.util.Collections;
import java.util.IdentityHashMap;
import java.util.List;
import java.util.Map;
import java.util.TreeSet;
import java.util.regex.Matcher;
import java.util.regex.Pattern;

/** The public face as the document lists it, and the rules of LANGUAGE.md that can be seen from outside. */
public final class FormTests {
    private static final Checks c = new Checks();
    private static final Path ROOT = Path.of(System.getProperty("project.root", "."));

    public static void main(String[] args) throws IOException, ReflectiveOperationException {
        String document = Files.readString(ROOT.resolve("../shared/DOC.md"));
        String source = Files.readString(ROOT.resolve("src/main/java/TaskTrace.java"));
        face(document);
        visibility();
        names();
        words(source);
        lengths(source);
        room();
        c.end();
    }

    // rule 1
    private static void face(String document) throws ReflectiveOperationException {
        String block = document.substring(document.indexOf("```java"), document.lastIndexOf("```"));
        TreeSet<String> due = new TreeSet<>();
        Matcher method = Pattern.compile("public (int|long) (\\w+)\\(([^)]*)\\)( throws [\\w, ]+)?;").matcher(block);
        while (method.find()) {
            String types = method.group(3).replaceAll(" \\w+(,|$)", "$1").replace(" ", "");
            String thrown = method.group(4) == null ? "" : method.group(4).replace(" throws ", "").replace(" ", "");
            due.add(method.group(1) + " " + method.group(2) + "(" + types + ")" + thrown);
        }
        TreeSet<String> got = new TreeSet<>();
        for (Method m : TaskTrace.class.getDeclaredMethods()) {
            if (Modifier.isPublic(m.getModifiers())) {
                got.add(m.getReturnType() + " " + m.getName() + "(" + list(m.getParameterTypes()) + ")" + list(m.getExceptionTypes()));
            }
        }
        c.due("methods in the document", due.size(), 37);
        c.holds("the methods are " + due + ", got " + got, due.equals(got));
        Matcher constant = Pattern.compile("([A-Z]+) = (-\\d+)").matcher(block);
        int constants = 0;
        while (constant.find()) {
            constants++;
            c.due(constant.group(1), TaskTrace.class.getField(constant.group(1)).getInt(null), Integer.parseInt(constant.group(2)));
        }
        c.due("public constants", TaskTrace.class.getFields().length, constants);
        c.due("constructors", TaskTrace.class.getDeclaredConstructors().length, 1);
        c.holds("public and final", TaskTrace.class.getModifiers() == (Modifier.PUBLIC | Modifier.FINAL));
    }

    private static String list(Class<?>[] types) {
        List<String> names = new ArrayList<>();
        for (Class<?> t : types) {
            names.add(t.getSimpleName());
        }
        return String.join(",", names);
    }

    // rules 1, 5 and 11
    private static void visibility() {
        for (Method m : TaskTrace.class.getDeclaredMethods()) {
            c.holds(m + " is public or private", Modifier.isPublic(m.getModifiers()) || Modifier.isPrivate(m.getModifiers()));
        }
        for (Field f : TaskTrace.class.getDeclaredFields()) {
            c.holds(f + " is private or a public constant", Modifier.isPrivate(f.getModifiers()) || Modifier.isStatic(f.getModifiers()));
        }
        List<Class<?>> all = new ArrayList<>(List.of(TaskTrace.class.getDeclaredClasses()));
        c.holds("at most twelve classes", all.size() < 12);
        for (Class<?> inside : all) {
            c.holds(inside + " is static", Modifier.isStatic(inside.getModifiers()));
            c.holds(inside + " isn't public", !Modifier.isPublic(inside.getModifiers()) && !Modifier.isProtected(inside.getModifiers()));
        }
        all.add(TaskTrace.class);
        for (Class<?> k : all) {
            int own = 0;
            for (Field f : k.getDeclaredFields()) {
                own += Modifier.isStatic(f.getModifiers()) ? 0 : 1;
                c.holds(f + " is final if static", !Modifier.isStatic(f.getModifiers()) || Modifier.isFinal(f.getModifiers()));
            }
            c.holds(k + " has at most twenty fields", own <= 20);
            for (Method m : k.getDeclaredMethods()) {
                c.holds(m + " has at most seven parameters", m.getParameterCount() <= 7);
            }
        }
    }

    // rule 1
    private static void names() {
        TreeSet<String> face = new TreeSet<>();
        for (Method m : TaskTrace.class.getDeclaredMethods()) {
            if (Modifier.isPublic(m.getModifiers())) {
                face.add(m.getName());
            }
        }
        for (Class<?> k : TaskTrace.class.getDeclaredClasses()) {
            for (Method m : k.getDeclaredMethods()) {
                c.holds(m + " bears no name of the face", !face.contains(m.getName()));
            }
        }
        for (Method m : TaskTrace.class.getDeclaredMethods()) {
            c.holds(m + " bears no name of the face", Modifier.isPublic(m.getModifiers()) || !face.contains(m.getName()));
        }
    }

    // rules 2, 4, 6 and 12
    private static void words(String source) {
        for (String line : source.split("\n")) {
            c.holds("plain signs: " + line, line.chars().allMatch(s -> s >= 32 && s < 127));
            if (line.startsWith("import ")) {
                c.due("import: " + line, line.equals("import java.util.Arrays;") ? 1 : 0, 1);
            }
            boolean makes = line.matches(".*\\bnew .*");
            boolean known = line.contains("throw new ") || line.matches("\\s+(private )?final .* = new .*;")
                    || line.matches("\\s+(tapes\\[d\\] = new Tape\\(\\)|lanes\\[p\\] = new Lane\\(\\)|kept = new Trace\\(\\));");
            c.holds("makes objects only once or to throw: " + line, !makes || known);
            boolean throwsKnown = line.matches(".*throw new (IllegalArgument|IllegalState)Exception\\(\"[^\"]*\"\\);");
            c.holds("throws by rule 6: " + line, !line.contains("throw new") || throwsKnown);
        }
        String code = source.replaceAll("/\\*\\*[^*]*\\*/", "").replaceAll("//[^\n]*", "");
        for (String word : List.of("catch", "try", "finally", "synchronized", "assert", "->", "::", "Exact(", "System.out",
                "Thread", "Random", "currentTimeMillis", "nanoTime", "HashMap", "hashCode", "toString", "package ")) {
            c.holds("no " + word, !code.contains(word));
        }
    }

    // rule 11
    private static void lengths(String source) {
        String[] lines = source.split("\n");
        int start = -1;
        for (int i = 0; i < lines.length; i++) {
            if (lines[i].matches("(    |        )(public|private|int|long|void|boolean|Lane|[A-Z]\\w+\\().*\\{") && !lines[i].contains(" class ")) {
                start = i;
            }
            if (start >= 0 && lines[i].matches("(    |        )\\}")) {
                c.holds("short: " + lines[start], i - start <= 60);
                start = -1;
            }
        }
    }

    /** What an object with six copies keeps; the calls make nothing else but what they throw. */
    private static void room() throws ReflectiveOperationException {
        TaskTrace x = new TaskTrace();
        long[] bare = kept(x);
        for (int turn = 0; turn < 3; turn++) {
            for (int d = 0; d < 6; d++) {
                x.keep(d);
            }
        }
        long[] whole = kept(x);
        c.holds("a new object is small: " + bare[0] + " objects, " + bare[1] + " fields", bare[0] < 100 && bare[1] < 6000);
        c.holds("six copies too: " + whole[0] + " objects, " + whole[1] + " fields", whole[0] < 400 && whole[1] < 25000);
    }

    private static long[] kept(Object root) throws ReflectiveOperationException {
        Map<Object, Boolean> seen = new IdentityHashMap<>();
        List<Object> open = new ArrayList<>(Collections.singletonList(root));
        long fields = 0;
        while (!open.isEmpty()) {
            Object o = open.remove(open.size() - 1);
            if (o == null || seen.put(o, true) != null) {
                continue;
            }
            if (o.getClass().isArray()) {
                fields += Array.getLength(o);
                for (int i = 0; o instanceof Object[] row && i < row.length; i++) {
                    open.add(row[i]);
                }
                continue;
            }
            for (Field f : o.getClass().getDeclaredFields()) {
                if (!Modifier.isStatic(f.getModifiers())) {
                    fields++;
                    f.setAccessible(true);
                    if (!f.getType().isPrimitive()) {
                        open.add(f.get(o));
                    }
                }
            }
        }
        return new long[] {seen.size(), fields};
    }
}
