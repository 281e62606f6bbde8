import java.io.IOException;
import java.io.PrintWriter;
import java.io.StringWriter;
import java.lang.reflect.Field;
import java.lang.reflect.Method;
import java.lang.reflect.Modifier;
import java.nio.file.Files;
import java.nio.file.Path;
import java.util.ArrayList;
import java.util.Arrays;
import java.util.HashMap;
import java.util.List;
import java.util.Map;
import java.util.TreeMap;
import java.util.TreeSet;
import java.util.regex.Matcher;
import java.util.regex.Pattern;
import java.util.spi.ToolProvider;

/** The face is the document's, and the class keeps to the rules of LANGUAGE.md as far as they can be seen from outside. */
public final class LanguageTest {
    private static final Path SOURCE = Path.of("src/main/java/RangedMachines.java");
    private static final Path DOCUMENT = Path.of("../shared/DOC.md");
    private static int wrong;

    public static void main(String[] args) throws IOException {
        face();
        members();
        source();
        depth();
        System.out.println(wrong == 0 ? "the class keeps to the rules" : wrong + " rules are broken");
        if (wrong != 0) {
            System.exit(1);
        }
    }

    private static void rule(boolean kept, String what) {
        if (!kept) {
            wrong++;
            System.out.println(what);
        }
    }

    /** Every public member as the document writes it. */
    private static void face() throws IOException {
        TreeSet<String> due = new TreeSet<>();
        Matcher line = Pattern.compile("^    public (int|long) (\\w+)\\((.*)\\)( throws NoSuchElementException)?;$",
                Pattern.MULTILINE).matcher(Files.readString(DOCUMENT));
        while (line.find()) {
            StringBuilder types = new StringBuilder();
            for (String parameter : line.group(3).isEmpty() ? new String[0] : line.group(3).split(", ")) {
                types.append(' ').append(parameter.split(" ")[0]);
            }
            due.add(line.group(1) + " " + line.group(2) + types + (line.group(4) == null ? "" : " throws"));
        }
        rule(due.size() == 57, "the document has other calls than 57: " + due.size());
        TreeSet<String> got = new TreeSet<>();
        for (Method method : RangedMachines.class.getDeclaredMethods()) {
            if (Modifier.isPublic(method.getModifiers())) {
                StringBuilder types = new StringBuilder();
                for (Class<?> type : method.getParameterTypes()) {
                    types.append(' ').append(type.getName());
                }
                got.add(method.getReturnType().getName() + " " + method.getName() + types
                        + (method.getExceptionTypes().length == 0 ? "" : " throws"));
            } else {
                rule(Modifier.isPrivate(method.getModifiers()), "neither public nor private: " + method);
            }
        }
        rule(due.equals(got), "the face differs: " + due + " " + got);
        rule(Modifier.isFinal(RangedMachines.class.getModifiers()), "the class is not final");
        rule(RangedMachines.class.getDeclaredConstructors().length == 1
                && RangedMachines.class.getConstructors().length == 1, "other constructors than one");
        for (Field field : RangedMachines.class.getDeclaredFields()) {
            rule(field.getName().equals("NONE") || Modifier.isPrivate(field.getModifiers()), "not private: " + field);
        }
    }

    private static void members() {
        List<Class<?>> all = new ArrayList<>(List.of(RangedMachines.class));
        all.addAll(Arrays.asList(RangedMachines.class.getDeclaredClasses()));
        rule(all.size() <= 12, "more than 12 classes");
        TreeSet<String> names = new TreeSet<>();
        for (Method method : RangedMachines.class.getMethods()) {
            names.add(method.getName());
        }
        for (Class<?> each : all) {
            rule(each == RangedMachines.class || Modifier.isStatic(each.getModifiers()), "not static: " + each);
            int fields = 0;
            for (Field field : each.getDeclaredFields()) {
                boolean fixed = Modifier.isStatic(field.getModifiers());
                fields += fixed ? 0 : 1;
                rule(!fixed || Modifier.isFinal(field.getModifiers()), "static, not final: " + field);
            }
            rule(fields <= 20, "more than 20 fields: " + each);
            for (Method method : each.getDeclaredMethods()) {
                rule(method.getParameterCount() <= 7, "more than 7 parameters: " + method);
                rule(Modifier.isPublic(method.getModifiers()) || !names.contains(method.getName()),
                        "bears the name of a call: " + method);
            }
        }
    }

    private static void source() throws IOException {
        String text = Files.readString(SOURCE);
        rule(text.chars().allMatch(c -> c == '\n' || c >= 32 && c < 127), "a sign that is not plain");
        String code = text.replaceAll("(?s)/\\*.*?\\*/", "").replaceAll("//[^\n]*", "");
        for (String word : new String[] {"->", "::", "\\btry\\b", "\\bcatch\\b", "\\bfinally\\b", "\\bassert\\b",
            "\\bsynchronized\\b", "\\bpackage\\b", "\\bequals\\b", "\\bhashCode\\b", "\\btoString\\b", "Exact\\b",
            "\\binstanceof\\b", "\\bdouble\\b", "\\bfloat\\b", "static \\{", "\\bObject\\b"}) {
            rule(!Pattern.compile(word).matcher(code).find(), "the source has " + word);
        }
        TreeSet<String> imports = new TreeSet<>();
        Matcher matcher = Pattern.compile("import ([\\w.]+);").matcher(code);
        while (matcher.find()) {
            imports.add(matcher.group(1));
        }
        rule(imports.equals(new TreeSet<>(List.of("java.util.Arrays", "java.util.NoSuchElementException"))),
                "imports: " + imports);
        rule(count(code, "throw ") == 1 && code.contains("throw new NoSuchElementException();"), "other throws than one");
        int length = 0;
        for (String line : text.split("\n")) {
            boolean opens = line.matches("( {4}| {8})\\w.*\\) (throws \\w+ )?\\{");
            length = opens ? 1 : length + 1;
            rule(!line.matches("( {4}| {8})\\}") || length <= 60, "more than 60 lines end with " + line);
            rule(line.length() <= 120, "a long line: " + line);
            if (line.matches(" {4,8}\\}")) {
                length = Integer.MIN_VALUE;
            }
        }
    }

    private static int count(String text, String part) {
        return (text.length() - text.replace(part, "").length()) / part.length();
    }

    /** Calls go at most eight deep, the library's last one too, and none comes back to itself. */
    private static void depth() {
        Map<String, TreeSet<String>> calls = new TreeMap<>();
        List<Class<?>> all = new ArrayList<>(List.of(RangedMachines.class));
        all.addAll(Arrays.asList(RangedMachines.class.getDeclaredClasses()));
        for (Class<?> each : all) {
            StringWriter out = new StringWriter();
            ToolProvider.findFirst("javap").orElseThrow().run(new PrintWriter(out), new PrintWriter(out), "-c", "-p",
                    "-cp", System.getProperty("java.class.path"), each.getName());
            String from = null;
            for (String line : out.toString().split("\n")) {
                Matcher head = Pattern.compile("^  \\w.*?([\\w$]+)\\(.*\\).*;$").matcher(line);
                Matcher call = Pattern.compile("invoke\\w+ .*// \\w*Method (?:([\\w$/]+)\\.)?\"?([\\w<>]+)\"?:")
                        .matcher(line);
                if (head.find()) {
                    from = each.getName() + "." + (each.getName().endsWith(head.group(1)) ? "<init>" : head.group(1));
                    calls.putIfAbsent(from, new TreeSet<>());
                } else if (call.find() && from != null) {
                    calls.get(from).add((call.group(1) == null ? each.getName() : call.group(1)) + "." + call.group(2));
                }
            }
        }
        Map<String, Integer> depths = new HashMap<>();
        for (String name : calls.keySet()) {
            int deep = depthOf(name, calls, depths, 0);
            rule(deep <= 8, name + " goes " + deep + " deep");
        }
        rule(calls.size() > 150, "too few methods were seen: " + calls.size());
    }

    private static int depthOf(String name, Map<String, TreeSet<String>> calls, Map<String, Integer> depths, int open) {
        if (open > 50 || !calls.containsKey(name)) {
            return 1;
        }
        if (!depths.containsKey(name)) {
            int deepest = 0;
            for (String next : calls.get(name)) {
                deepest = Math.max(deepest, depthOf(next, calls, depths, open + 1));
            }
            depths.put(name, deepest + 1);
        }
        return depths.get(name);
    }
}
