import java.io.IOException;
import java.lang.reflect.Method;
import java.lang.reflect.Modifier;
import java.nio.charset.StandardCharsets;
import java.nio.file.Files;
import java.nio.file.Path;
import java.util.ArrayList;
import java.util.HashMap;
import java.util.HashSet;
import java.util.List;
import java.util.Map;
import java.util.Set;
import java.util.TreeSet;
import java.util.regex.Matcher;
import java.util.regex.Pattern;

/** The class keeps to LANGUAGE.md, as far as its source and its shape tell. */
public final class LanguageTest {
    private static final Check CHECK = new Check("LanguageTest");
    private static final String[] FACE = {
        "int feed(int,int,int,int,int)", "boolean end(int)", "int fault()", "int land()", "int person(int,int)",
        "int want(int,int)", "int thing(int,int)", "int chain(int,int,int)", "int lend(int,int,int)", "int back(int)",
        "int go(int)", "boolean lose(int)", "boolean law(int)", "int owes(int,int)", "int balance(int)", "int met(int)",
        "int shorts(int)", "int price(int,int)", "int longer(int,int)", "int other()", "int given(int)",
        "int carry(int,int)", "int moves(int,int,int)", "int spread()", "int late(int,int,int)", "int bears(int)",
        "int dies(int,int,int)", "int entry(int,int)", "int undo()", "int earth(int)", "int years(int,int,int)",
        "boolean image(int)", "boolean on(int)", "int status(int)", "int count(int)"};
    private static final String[] REFUSED = {
        "\\bthrow\\b", "\\btry\\b", "\\bcatch\\b", "\\bsynchronized\\b", "\\bassert\\b", "->", "::", "\\binstanceof\\b",
        "static\\s*\\{", "Exact\\b", "\\b(hashCode|toString|Random|Thread|Object|Integer\\.[A-Z])\\b", "\\bInteger\\.MAX",
        "\\bnew\\s+\\w+\\s*\\([^)]*\\)\\s*\\{", "\\benum\\b", "\\brecord\\b", "\\bvar\\b", "\"\\s*\\+", "\\+\\s*\"", "[^\\x00-\\x7f]"};
    private static final Pattern HEAD = Pattern.compile(
        "^( {4}| {8})(?:public |private |static |final )*[\\w\\[\\]]+ (\\w+)\\(([^)]*)\\) \\{$");

    private static final Map<String, Set<String>> CALLS = new HashMap<>();

    public static void main(String[] args) throws IOException {
        Path path = Path.of("src/main/java/OnlyLent.java");
        String source = Files.readString(path, StandardCharsets.UTF_8);
        face();
        words(bare(source));
        methods(source.split("\n"));
        for (String method : CALLS.keySet()) {
            int deep = depth(method, new ArrayList<>());
            CHECK.due("calls of " + method + " go at most eight deep: " + deep, deep <= 8, true);
        }
        shapes();
        CHECK.finish();
    }

    private static String bare(String source) {
        return source.replaceAll("(?s)/\\*.*?\\*/", "").replaceAll("//[^\n]*", "");
    }

    private static void face() {
        CHECK.due("final class", Modifier.isFinal(OnlyLent.class.getModifiers()), true);
        Set<String> due = new TreeSet<>(List.of(FACE));
        Set<String> got = new TreeSet<>();
        Set<String> names = new HashSet<>();
        for (Method method : OnlyLent.class.getDeclaredMethods()) {
            if (Modifier.isPublic(method.getModifiers())) {
                StringBuilder told = new StringBuilder(method.getReturnType() + " " + method.getName() + "(");
                for (int i = 0; i < method.getParameterCount(); i++) told.append(i > 0 ? "," : "").append(method.getParameterTypes()[i]);
                got.add(told.append(")").toString());
                names.add(method.getName());
            }
        }
        CHECK.due("face " + got, got.equals(due), true);
        for (Class<?> inner : OnlyLent.class.getDeclaredClasses()) {
            CHECK.due("static " + inner, Modifier.isStatic(inner.getModifiers()), true);
            for (Method method : inner.getDeclaredMethods())
                CHECK.due("name of the face in " + inner + ": " + method.getName(), names.contains(method.getName()), false);
        }
        for (Method method : OnlyLent.class.getDeclaredMethods())
            if (!Modifier.isPublic(method.getModifiers())) {
                CHECK.due("private " + method, Modifier.isPrivate(method.getModifiers()), true);
                CHECK.due("name of the face: " + method.getName(), names.contains(method.getName()), false);
            }
    }

    private static void words(String source) {
        for (String word : REFUSED) {
            Matcher m = Pattern.compile(word).matcher(source);
            CHECK.due("refused by the language: " + word, m.find(), false);
        }
        Matcher imports = Pattern.compile("import ([\\w.]+);").matcher(source);
        while (imports.find())
            CHECK.due("import " + imports.group(1), Set.of("java.util.Arrays", "java.util.ArrayList", "java.util.List",
                "java.util.Iterator").contains(imports.group(1)), true);
        Matcher names = Pattern.compile("\\b([A-Z]\\w*[a-z]\\w*)\\b").matcher(source.replaceAll("import [^;]*;", ""));
        Set<String> own = new HashSet<>(Set.of("OnlyLent", "String", "Math", "Integer", "System", "Arrays"));
        for (Class<?> inner : OnlyLent.class.getDeclaredClasses()) own.add(inner.getSimpleName());
        while (names.find()) CHECK.due("type " + names.group(1), own.contains(names.group(1)), true);
        Matcher indexes = Pattern.compile("\\w+\\[[^\\]]+\\]").matcher(source);
        while (indexes.find()) {
            String index = indexes.group();
            boolean ok = index.matches("(int|long|byte|Holdings)\\[[A-Z_* +0-9]+\\]|row\\[i\\]|bytes\\[(size|place)\\]|images\\[k\\]"
                + "|(int|long|byte|Holdings)\\[(MOST|TEXT|WANTS|IMAGES|REASONS|SETS|ROOM|LAST|CHAIN)\\w*[^\\]]*\\]");
            CHECK.due("an index outside at() and put(): " + index, ok, true);
        }
    }

    private static void methods(String[] lines) {
        Map<String, String> bodies = new HashMap<>();
        for (int i = 0; i < lines.length; i++) {
            Matcher m = HEAD.matcher(lines[i]);
            if (!m.matches()) continue;
            int end = i;
            while (!lines[end].equals(m.group(1) + "}")) end++;
            CHECK.due(m.group(2) + " has at most 60 lines", end - i + 1 <= 60, true);
            CHECK.due(m.group(2) + " has at most 7 parameters", m.group(3).split(",").length <= 7, true);
            bodies.merge(m.group(2), String.join("\n", List.of(lines).subList(i + 1, end)), (a, b) -> a + "\n" + b);
        }
        for (Map.Entry<String, String> body : bodies.entrySet()) {
            Set<String> calls = new HashSet<>();
            Matcher m = Pattern.compile("(\\.\\s*)?\\b(\\w+)\\(").matcher(bare(body.getValue()));
            while (m.find()) {
                if (bodies.containsKey(m.group(2))) calls.add(m.group(2));
                else if (m.group(2).matches("abs|min|max|bitCount|fill|arraycopy|charAt|length")) calls.add(m.group(2));
            }
            CALLS.put(body.getKey(), calls);
        }
        CHECK.due("methods are found", CALLS.size() > 100, true);
    }

    /** How many calls stand open at once from a method on, itself and the library's too; one that calls itself counts once. */
    private static int depth(String method, List<String> open) {
        if (open.contains(method)) return 0;
        open.add(method);
        int most = 0;
        for (String call : CALLS.getOrDefault(method, Set.of())) most = Math.max(most, depth(call, open));
        open.remove(open.size() - 1);
        return most + 1;
    }

    private static void shapes() {
        Class<?>[] inner = OnlyLent.class.getDeclaredClasses();
        CHECK.due("classes " + (inner.length + 1), inner.length + 1 <= 12, true);
        List<Class<?>> all = new ArrayList<>(List.of(inner));
        all.add(OnlyLent.class);
        for (Class<?> one : all) {
            int fields = 0;
            for (java.lang.reflect.Field field : one.getDeclaredFields()) {
                boolean constant = Modifier.isStatic(field.getModifiers());
                fields += constant ? 0 : 1;
                CHECK.due("static field is final: " + field, constant && !Modifier.isFinal(field.getModifiers()), false);
                boolean told = field.getName().equals("NONE") || field.getName().equals("VOID");
                if (one == OnlyLent.class)
                    CHECK.due("private but the constants: " + field, Modifier.isPrivate(field.getModifiers()), !told);
            }
            CHECK.due("fields of " + one + ": " + fields, fields <= 20, true);
        }
    }
}
