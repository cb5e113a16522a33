import java.io.IOException;
import java.lang.reflect.Field;
import java.lang.reflect.Method;
import java.lang.reflect.Modifier;
import java.nio.file.Files;
import java.nio.file.Path;
import java.util.ArrayList;
import java.util.LinkedHashMap;
import java.util.List;
import java.util.Map;
import java.util.Set;
import java.util.TreeSet;
import java.util.regex.Matcher;
import java.util.regex.Pattern;

/** The face of the document, and those rules of LANGUAGE.md that can be looked up. */
final class LanguageTest {
    private static final Path SOURCE = Path.of("src/main/java/TalkKeeper.java");

    public static void main(String[] args) throws IOException {
        constants();
        face();
        classes();
        words(Files.readString(SOURCE));
        methods(Files.readAllLines(SOURCE));
        Map<String, String> bodies = bodies(Files.readAllLines(SOURCE));
        callDepth(bodies);
        objectsMade(bodies);
        Due.end();
    }

    private static void constants() {
        Due.is("NONE", -1, TalkKeeper.NONE);
        Due.is("BAD", -2, TalkKeeper.BAD);
        Due.is("STATE", -3, TalkKeeper.STATE);
        Due.is("FULL", -4, TalkKeeper.FULL);
    }

    private static void face() {
        Class<?> face = TalkKeeper.class;
        Due.isTrue("public and final", Modifier.isPublic(face.getModifiers()) && Modifier.isFinal(face.getModifiers()));
        Due.is("constructors", 1, face.getDeclaredConstructors().length);
        Due.is("parameters of the constructor", 0, face.getDeclaredConstructors()[0].getParameterCount());
        Set<String> due = new TreeSet<>();
        for (int i = 0; i < Calls.NUMBER; i++) {
            due.add(Calls.NAMES[i] + " " + Calls.PARAMETERS[i]);
        }
        Set<String> found = new TreeSet<>();
        for (Method method : face.getDeclaredMethods()) {
            if (!Modifier.isPrivate(method.getModifiers())) {
                found.add(method.getName() + " " + method.getParameterCount());
                Due.isTrue(method + " answers int", method.getReturnType() == int.class);
            }
        }
        Due.isTrue("the methods are " + found, found.equals(due));
        Set<String> open = new TreeSet<>();
        for (Field field : face.getDeclaredFields()) {
            if (!Modifier.isPrivate(field.getModifiers())) {
                open.add(field.getName());
            }
        }
        Due.isTrue("the constants are " + open, open.equals(Set.of("NONE", "BAD", "STATE", "FULL")));
    }

    private static void classes() {
        List<Class<?>> all = new ArrayList<>(List.of(TalkKeeper.class.getDeclaredClasses()));
        Due.isTrue("at most twelve classes", all.size() < 12);
        for (Class<?> inside : all) {
            Due.isTrue(inside + " is static", Modifier.isStatic(inside.getModifiers()));
            Due.isTrue(inside + " is not public", !Modifier.isPublic(inside.getModifiers()));
        }
        all.add(TalkKeeper.class);
        Set<String> names = Set.of(Calls.NAMES);
        for (Class<?> one : all) {
            int fields = 0;
            for (Field field : one.getDeclaredFields()) {
                boolean fixed = Modifier.isStatic(field.getModifiers());
                Due.isTrue(field + " is final if static", !fixed || Modifier.isFinal(field.getModifiers()));
                fields += fixed ? 0 : 1;
            }
            Due.isTrue(one + " has some twenty fields", fields <= 20);
            for (Method method : one.getDeclaredMethods()) {
                Due.isTrue(method + " has seven parameters at most", method.getParameterCount() <= 7);
                boolean own = Modifier.isPublic(method.getModifiers());
                Due.isTrue(method + " bears no public name", own || !names.contains(method.getName()));
            }
        }
    }

    private static void words(String source) {
        String code = source.replaceAll("(?s)/\\*.*?\\*/", "").replaceAll("//.*", "");
        String[] forbidden = {"throw", "throws", "try", "catch", "synchronized", "assert", "volatile", "native",
            "Object", "Exception", "Thread", "Random", "protected", "package"};
        for (String word : forbidden) {
            Due.isTrue("the program is without " + word, !Pattern.compile("\\b" + word + "\\b").matcher(code).find());
        }
        for (String sign : new String[] {"->", "::", "\"", "Exact("}) {
            Due.isTrue("the program is without " + sign, !code.contains(sign));
        }
        Matcher imports = Pattern.compile("import ([^;]*);").matcher(code);
        while (imports.find()) {
            Due.isTrue("import of " + imports.group(1), imports.group(1).equals("java.util.Arrays"));
        }
        Matcher library = Pattern.compile("\\b(System|Arrays|Integer|Math)\\.(\\w+)").matcher(code);
        Set<String> allowed = Set.of("System.arraycopy", "Arrays.fill", "Integer.bitCount", "Math.min", "Math.max");
        while (library.find()) {
            Due.isTrue("use of " + library.group(), allowed.contains(library.group()));
        }
    }

    private static void methods(List<String> lines) {
        int start = 0;
        for (int i = 0; i < lines.size(); i++) {
            String line = lines.get(i);
            boolean head = line.matches("( {4}| {8})[a-z].*\\) \\{") && !line.matches(" *(if|for|while|switch) .*");
            if (head) {
                start = i;
            }
            if (line.matches(" {4}(    )?}") && start > 0) {
                Due.isTrue("the method at line " + (start + 1) + " is short", i - start < 60);
            }
            Due.isTrue("line " + (i + 1) + " holds plain signs", line.chars().allMatch(sign -> sign >= 32 && sign < 127));
        }
    }

    /** What stands in each method, by its name: no two methods of the program bear one name. */
    private static Map<String, String> bodies(List<String> lines) {
        Pattern head = Pattern.compile("( {4}| {8})(?:public |private )?(?:static )?(?:\\w+ )?(\\w+)\\(.*\\) \\{");
        Map<String, String> bodies = new LinkedHashMap<>();
        for (int i = 0; i < lines.size(); i++) {
            Matcher found = head.matcher(lines.get(i));
            if (found.matches() && !found.group(2).matches("if|for|while|switch")) {
                StringBuilder body = new StringBuilder();
                for (int k = i + 1; k < lines.size() && !lines.get(k).equals(found.group(1) + "}"); k++) {
                    body.append(lines.get(k).replaceAll("//.*", "")).append('\n');
                }
                Due.isTrue("one method bears the name " + found.group(2), bodies.put(found.group(2), body.toString()) == null);
            }
        }
        for (String name : Calls.NAMES) {
            Due.isTrue("the method " + name + " is found", bodies.containsKey(name));
        }
        return bodies;
    }

    /** Rule 11: calls go at most eight deep. Rule 8: only the planner's two methods call one another. */
    private static void callDepth(Map<String, String> bodies) {
        Set<String> recursive = new TreeSet<>();
        int deepest = 0;
        for (String name : Calls.NAMES) {
            int depth = depth(bodies, name, new ArrayList<>(List.of(name)), recursive);
            Due.isTrue("the calls of " + name + " go " + depth + " deep", depth <= 8);
            deepest = Math.max(deepest, depth);
        }
        Due.isTrue("the calls are found", deepest >= 5);
        Due.isTrue("recursion of " + recursive, recursive.equals(Set.of("fewest", "fewestBy")));
    }

    private static int depth(Map<String, String> bodies, String name, List<String> open, Set<String> recursive) {
        int deepest = open.size();
        Matcher calls = Pattern.compile("\\b(\\w+)\\(").matcher(bodies.get(name));
        while (calls.find()) {
            String next = calls.group(1);
            boolean made = calls.start() >= 4 && bodies.get(name).startsWith("new ", calls.start() - 4);
            if (open.contains(next)) {
                recursive.addAll(open.subList(open.indexOf(next), open.size()));
            } else if (bodies.containsKey(next) && !made) {
                open.add(next);
                deepest = Math.max(deepest, depth(bodies, next, open, recursive));
                open.remove(open.size() - 1);
            }
        }
        return deepest;
    }

    /** Rule 12, and the one room for all calls: only form() makes an object. */
    private static void objectsMade(Map<String, String> bodies) {
        for (Map.Entry<String, String> body : bodies.entrySet()) {
            boolean makes = Pattern.compile("\\bnew\\b|\\bclone\\b|copyOf").matcher(body.getValue()).find();
            Due.isTrue(body.getKey() + " makes no object", !makes || body.getKey().equals("form"));
        }
    }
}
