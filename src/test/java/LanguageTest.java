import java.io.IOException;
import java.lang.reflect.Field;
import java.lang.reflect.Method;
import java.lang.reflect.Modifier;
import java.nio.file.Files;
import java.nio.file.Path;
import java.util.ArrayList;
import java.util.List;
import java.util.Set;
import java.util.TreeSet;
import java.util.regex.Matcher;
import java.util.regex.Pattern;

/** The face of the document, and those rules of LANGUAGE.md that can be looked up. */
final class LanguageTest {
    private static final Path SOURCE = Path.of("src/main/java/TalkKeeper.java");

    public static void main(String[] args) throws IOException {
        constants();
        face();
        classes();
        words(Files.readString(SOURCE));
        methods(Files.readAllLines(SOURCE));
        Due.end();
    }

    private static void constants() {
        Due.is("NONE", -1, TalkKeeper.NONE);
        Due.is("BAD", -2, TalkKeeper.BAD);
        Due.is("STATE", -3, TalkKeeper.STATE);
        Due.is("FULL", -4, TalkKeeper.FULL);
    }

    private static void face() {
        Class<?> face = TalkKeeper.class;
        Due.isTrue("public and final", Modifier.isPublic(face.getModifiers()) && Modifier.isFinal(face.getModifiers()));
        Due.is("constructors", 1, face.getDeclaredConstructors().length);
        Due.is("parameters of the constructor", 0, face.getDeclaredConstructors()[0].getParameterCount());
        Set<String> due = new TreeSet<>();
        for (int i = 0; i < Calls.NUMBER; i++) {
            due.add(Calls.NAMES[i] + " " + Calls.PARAMETERS[i]);
        }
        Set<String> found = new TreeSet<>();
        for (Method method : face.getDeclaredMethods()) {
            if (!Modifier.isPrivate(method.getModifiers())) {
                found.add(method.getName() + " " + method.getParameterCount());
                Due.isTrue(method + " answers int", method.getReturnType() == int.class);
            }
        }
        Due.isTrue("the methods are " + found, found.equals(due));
        Set<String> open = new TreeSet<>();
        for (Field field : face.getDeclaredFields()) {
            if (!Modifier.isPrivate(field.getModifiers())) {
                open.add(field.getName());
            }
        }
        Due.isTrue("the constants are " + open, open.equals(Set.of("NONE", "BAD", "STATE", "FULL")));
    }

    private static void classes() {
        List<Class<?>> all = new ArrayList<>(List.of(TalkKeeper.class.getDeclaredClasses()));
        Due.isTrue("at most twelve classes", all.size() < 12);
        for (Class<?> inside : all) {
            Due.isTrue(inside + " is static", Modifier.isStatic(inside.getModifiers()));
            Due.isTrue(inside + " is not public", !Modifier.isPublic(inside.getModifiers()));
        }
        all.add(TalkKeeper.class);
        Set<String> names = Set.of(Calls.NAMES);
        for (Class<?> one : all) {
            int fields = 0;
            for (Field field : one.getDeclaredFields()) {
                boolean fixed = Modifier.isStatic(field.getModifiers());
                Due.isTrue(field + " is final if static", !fixed || Modifier.isFinal(field.getModifiers()));
                fields += fixed ? 0 : 1;
            }
            Due.isTrue(one + " has some twenty fields", fields <= 20);
            for (Method method : one.getDeclaredMethods()) {
                Due.isTrue(method + " has seven parameters at most", method.getParameterCount() <= 7);
                boolean own = Modifier.isPublic(method.getModifiers());
                Due.isTrue(method + " bears no public name", own || !names.contains(method.getName()));
            }
        }
    }

    private static void words(String source) {
        String code = source.replaceAll("(?s)/\\*.*?\\*/", "").replaceAll("//.*", "");
        String[] forbidden = {"throw", "throws", "try", "catch", "synchronized", "assert", "volatile", "native",
            "Object", "Exception", "Thread", "Random", "protected", "package"};
        for (String word : forbidden) {
            Due.isTrue("the program is without " + word, !Pattern.compile("\\b" + word + "\\b").matcher(code).find());
        }
        for (String sign : new String[] {"->", "::", "\"", "Exact("}) {
            Due.isTrue("the program is without " + sign, !code.contains(sign));
        }
        Matcher imports = Pattern.compile("import ([^;]*);").matcher(code);
        while (imports.find()) {
            Due.isTrue("import of " + imports.group(1), imports.group(1).equals("java.util.Arrays"));
        }
        Matcher library = Pattern.compile("\\b(System|Arrays|Integer|Math)\\.(\\w+)").matcher(code);
        Set<String> allowed = Set.of("System.arraycopy", "Arrays.fill", "Integer.bitCount", "Math.min", "Math.max");
        while (library.find()) {
            Due.isTrue("use of " + library.group(), allowed.contains(library.group()));
        }
    }

    private static void methods(List<String> lines) {
        int start = 0;
        for (int i = 0; i < lines.size(); i++) {
            String line = lines.get(i);
            boolean head = line.matches("( {4}| {8})[a-z].*\\) \\{") && !line.matches(" *(if|for|while|switch) .*");
            if (head) {
                start = i;
            }
            if (line.matches(" {4}(    )?}") && start > 0) {
                Due.isTrue("the method at line " + (start + 1) + " is short", i - start < 60);
            }
            Due.isTrue("line " + (i + 1) + " holds plain signs", line.chars().allMatch(sign -> sign >= 32 && sign < 127));
        }
    }
}
