import java.io.IOException;
import java.lang.reflect.Field;
import java.lang.reflect.Method;
import java.lang.reflect.Modifier;
import java.nio.charset.StandardCharsets;
import java.nio.file.Files;
import java.nio.file.Path;
import java.util.HashSet;
import java.util.List;
import java.util.Set;
import java.util.TreeSet;
import java.util.regex.Matcher;
import java.util.regex.Pattern;

/** The rules of ../shared/LANGUAGE.md that can be seen from the source or from the class. */
public final class LanguageTest {
    private static final Path SOURCE = Path.of("src/main/java/WordRation.java");
    private static final String FACE = "feed(int) town() fault() told(int) word(int,int) hoarded(int,int) need(int,int) "
            + "day(int) say(int,int) around(int,int,int) point(int) hoard(int,int,int) sell(int,int,int,int) "
            + "raise(int,int) drift(int) undo() cheapest(int,int,int) runsOut(int) willBe(int) plan(int) price(int) "
            + "sells(int,int) share(int,int) more(int) fire(int,int) rhymes(int) silent(int,int) "
            + "knot(int,int,boolean) who() ask() write(int,int) tear() judge() seed(int) keep(int) goBack(int)";
    private static final List<String> FORBIDDEN = List.of(
            "\\b(package|import|throw|throws|try|catch|finally|synchronized|assert|native|volatile|transient|var|yield)\\b",
            "->", "::", "\\bstatic\\s*\\{", "\\b(float|double)\\b", "\\bObject\\b", "Exact\\b", "\\bcase\\s+[A-Z][a-z]",
            "\\bSystem\\.(?!arraycopy\\b)", "\\bnew\\s+\\w+\\s*\\([^)]*\\)\\s*\\{", "\\b(Thread|Runtime|Random|Class)\\b",
            "\\.(hashCode|getClass|toString|equals)\\b", "\\bwhile\\s*\\(\\s*true", "\\bfor\\s*\\(\\s*;", "\"");
    private static final Check CHECK = new Check();

    private LanguageTest() { }

    public static void main(String[] args) throws IOException {
        face();
        Set<Class<?>> classes = new HashSet<>(List.of(WordRation.class.getDeclaredClasses()));
        for (Class<?> inside : classes) {
            CHECK.due(inside + " is static", Modifier.isStatic(inside.getModifiers()) ? 1 : 0, 1);
            CHECK.due(inside + " is not public", Modifier.isPublic(inside.getModifiers()) ? 1 : 0, 0);
        }
        classes.add(WordRation.class);
        CHECK.due("at most twelve classes", Math.max(12, classes.size()), 12);
        for (Class<?> one : classes) {
            fieldsAndMethods(one);
        }
        source(Files.readString(SOURCE, StandardCharsets.UTF_8));
        CHECK.end("LanguageTest");
    }

    private static void face() {
        Set<String> due = new TreeSet<>(List.of(FACE.split(" ")));
        Set<String> got = new TreeSet<>();
        for (Method method : WordRation.class.getDeclaredMethods()) {
            if (!Modifier.isPrivate(method.getModifiers())) {
                String types = String.join(",", List.of(method.getParameterTypes()).stream().map(Class::getName).toList());
                got.add(method.getName() + "(" + types + ")");
                CHECK.due(method + " is public and an int", method.getReturnType() == int.class
                        && Modifier.isPublic(method.getModifiers()) && !Modifier.isStatic(method.getModifiers()) ? 1 : 0, 1);
            }
        }
        CHECK.due("the face " + got, got.equals(due) ? 1 : 0, 1);
        CHECK.due("final", Modifier.isFinal(WordRation.class.getModifiers()) ? 1 : 0, 1);
        CHECK.due("one constructor", WordRation.class.getConstructors().length, 1);
        Set<String> constants = new TreeSet<>();
        for (Field field : WordRation.class.getDeclaredFields()) {
            if (!Modifier.isPrivate(field.getModifiers())) {
                constants.add(field.getName());
            }
        }
        CHECK.due("constants " + constants,
                constants.equals(new TreeSet<>(List.of("NONE", "UNKNOWN", "OUTSIDE", "NOT", "FULL"))) ? 1 : 0, 1);
    }

    private static void fieldsAndMethods(Class<?> one) {
        int fields = 0;
        for (Field field : one.getDeclaredFields()) {
            if (Modifier.isStatic(field.getModifiers())) {
                CHECK.due(field + " is final", Modifier.isFinal(field.getModifiers()) ? 1 : 0, 1);
            } else {
                fields++;
            }
        }
        CHECK.due("at most twenty fields in " + one, Math.max(20, fields), 20);
        Set<String> face = new HashSet<>();
        for (Method method : WordRation.class.getMethods()) {
            face.add(method.getName());
        }
        for (Method method : one.getDeclaredMethods()) {
            CHECK.due("at most seven parameters of " + method, Math.max(7, method.getParameterCount()), 7);
            if (!Modifier.isPublic(method.getModifiers())) {
                CHECK.due("no name of the face for " + method, face.contains(method.getName()) ? 1 : 0, 0);
            }
        }
    }

    private static void source(String whole) {
        String code = whole.replaceAll("(?s)/\\*.*?\\*/", "").replaceAll("//[^\n]*", "");
        for (String pattern : FORBIDDEN) {
            Matcher matcher = Pattern.compile(pattern).matcher(code);
            CHECK.due("'" + pattern + "' in the source", matcher.find() ? 1 : 0, 0);
        }
        for (int i = 0; i < whole.length(); i++) {
            if (whole.charAt(i) > 126 || whole.charAt(i) < ' ' && whole.charAt(i) != '\n') {
                CHECK.due("sign " + (int) whole.charAt(i) + " at " + i, 1, 0);
            }
        }
        // a method of the outer class is indented by four, one of a class inside by eight
        for (String indent : List.of("    ", "        ")) {
            Matcher method = Pattern.compile("(?m)^" + indent + "\\S[^=;\n]*\\) \\{\n(?s:.*?)^" + indent + "\\}").matcher(whole);
            int methods = 0;
            while (method.find()) {
                methods++;
                String text = method.group();
                String head = text.substring(0, text.indexOf('\n')).trim();
                CHECK.due("lines of " + head, Math.max(60, text.split("\n").length), 60);
            }
            CHECK.due("methods were found", Math.min(1, methods), 1);
        }
    }
}
