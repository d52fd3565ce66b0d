import java.io.IOException;
import java.lang.reflect.Method;
import java.lang.reflect.Modifier;
import java.nio.file.Files;
import java.nio.file.Path;
import java.util.ArrayList;
import java.util.List;
import java.util.Map;
import java.util.Set;
import java.util.TreeMap;
import java.util.TreeSet;
import java.util.regex.Matcher;
import java.util.regex.Pattern;

/** Some rules of LANGUAGE.md that can be seen in the source or in the classes. */
public final class LanguageTest {
    private static final Due due = new Due();
    private static final int LINES_OF_A_METHOD = 60;
    private static final int CALLS_DEEP = 8;
    private static final String[] FACE = {"feed", "tell", "query", "fault", "count", "role", "cell", "policy", "view",
        "asked", "step", "insert", "update", "delete", "grant", "turn", "undo", "readers", "toSee", "escapes", "may", "see",
        "forget", "meant", "look", "lapses", "years", "image", "restore"};

    private static void words(String source) {
        String[] banned = {"\\btry\\b", "\\bcatch\\b", "\\bfinally\\b", "->", "::", "\\bassert\\b", "\\bsynchronized\\b",
            "\\bprotected\\b", "\\bdouble\\b", "\\bfloat\\b", "Exact\\b", "\\bSystem\\.(?!arraycopy)", "\\bnull\\b",
            "\\bstatic \\{", "\\bvar\\b", "\\bhashCode\\b", "\\btoString\\b", "\\[\\]\\["};
        for (String word : banned) {
            Matcher m = Pattern.compile(word).matcher(source);
            due.is("source has " + word, m.find(), false);
        }
        due.is("one import", source.split("\nimport |^import ", -1).length - 1, 1);
        Matcher fields = Pattern.compile("(?m)^\\s+(?:private )?static (?!final|[^=;]*\\()").matcher(source);
        due.is("static fields are final", fields.find(), false);
    }

    /** By indentation: a method stands one step within its class. */
    private static void methods(List<String> lines) {
        for (int i = 0; i < lines.size(); i++) {
            Matcher m = Pattern.compile("( {4}| {8})\\S[^=;]*\\) (throws [^{]*)?\\{").matcher(lines.get(i));
            if (!m.matches()) {
                continue;
            }
            int end = i;
            while (!lines.get(end).equals(m.group(1) + "}")) {
                end++;
            }
            due.is("lines of " + lines.get(i).trim(), end - i < LINES_OF_A_METHOD, true);
            due.is("parameters of " + lines.get(i).trim(), lines.get(i).split(",").length <= 7, true);
        }
    }

    /** Which methods each one's body calls, by name: what bears one name counts as one. */
    private static Map<String, Set<String>> calls(List<String> lines) {
        Map<String, String> bodies = new TreeMap<>();
        for (int i = 0; i < lines.size(); i++) {
            Matcher m = Pattern.compile("( {4}| {8})(?:[\\w\\[\\]]+ )+(\\w+)\\([^=;]*\\) (throws [^{]*)?\\{").matcher(lines.get(i));
            if (!m.matches()) {
                continue;
            }
            StringBuilder body = new StringBuilder();
            while (!lines.get(++i).equals(m.group(1) + "}")) {
                body.append(lines.get(i)).append('\n');
            }
            bodies.merge(m.group(2), body.toString(), String::concat);
        }
        Map<String, Set<String>> calls = new TreeMap<>();
        for (String name : bodies.keySet()) {
            calls.put(name, new TreeSet<>());
            Matcher m = Pattern.compile("(\\w+)\\(").matcher(bodies.get(name));
            while (m.find()) {
                if (bodies.containsKey(m.group(1))) {
                    calls.get(name).add(m.group(1));
                }
            }
        }
        return calls;
    }

    private static Set<String> reached(Map<String, Set<String>> calls, String from) {
        Set<String> all = new TreeSet<>();
        List<String> open = new ArrayList<>(calls.get(from));
        while (!open.isEmpty()) {
            String name = open.remove(open.size() - 1);
            if (all.add(name)) {
                open.addAll(calls.get(name));
            }
        }
        return all;
    }

    /** Methods that call one another count once. */
    private static int depth(Map<String, Set<String>> reached, String from) {
        int deepest = 0;
        for (String name : reached.get(from)) {
            if (!reached.get(name).contains(from)) {
                deepest = Math.max(deepest, depth(reached, name));
            }
        }
        return deepest + 1;
    }

    private static void depths(List<String> lines) {
        Map<String, Set<String>> calls = calls(lines);
        Map<String, Set<String>> reached = new TreeMap<>();
        for (String name : calls.keySet()) {
            reached.put(name, reached(calls, name));
        }
        due.is("years reaches what divides", reached.get("years").contains("ofTwo"), true);
        due.is("a rule may stand in a rule", reached.get("readOr").contains("readOr"), true);
        for (String name : FACE) {
            int depth = depth(reached, name);
            due.is("calls of " + name + " go " + depth + " deep", depth <= CALLS_DEEP, true);
        }
    }

    private static void face() {
        Set<String> names = new TreeSet<>();
        for (Method method : PolicyRows.class.getDeclaredMethods()) {
            if (Modifier.isPublic(method.getModifiers())) {
                names.add(method.getName());
            } else {
                due.is(method.getName() + " is private", Modifier.isPrivate(method.getModifiers()), true);
            }
        }
        due.is("the public methods are those of the face", names.equals(new TreeSet<>(List.of(FACE))), true);
        due.is("public fields", PolicyRows.class.getFields().length, 1);
        due.is("classes", PolicyRows.class.getDeclaredClasses().length + 1 <= 12, true);
        for (Class<?> inner : PolicyRows.class.getDeclaredClasses()) {
            due.is(inner + " is static", Modifier.isStatic(inner.getModifiers()), true);
            for (Method method : inner.getDeclaredMethods()) {
                due.is(inner + " has no method " + method.getName(), List.of(FACE).contains(method.getName()), false);
            }
            fieldsOf(inner);
        }
        fieldsOf(PolicyRows.class);
    }

    private static void fieldsOf(Class<?> inner) {
        int fields = 0;
        for (java.lang.reflect.Field field : inner.getDeclaredFields()) {
            fields += Modifier.isStatic(field.getModifiers()) ? 0 : 1;
        }
        due.is("fields of " + inner + ": " + fields, fields <= 20, true);
    }

    public static void main(String[] args) throws IOException {
        Path path = Path.of("src/main/java/PolicyRows.java");
        String source = Files.readString(path);
        words(source);
        methods(List.of(source.split("\n")));
        depths(List.of(source.split("\n")));
        face();
        due.end("LanguageTest");
    }
}
