import java.io.IOException;
import java.lang.reflect.Field;
import java.lang.reflect.Method;
import java.lang.reflect.Modifier;
import java.nio.file.Files;
import java.nio.file.Path;
import java.util.Set;
import java.util.TreeSet;
import java.util.regex.Matcher;
import java.util.regex.Pattern;

/** The document's face, and the rules of LANGUAGE.md that can be seen from the file or the class. */
public final class LanguageTest {
    private static final Path SOURCE = Path.of("src/main/java/MosaicShop.java");
    private static final String[] CALLS = {"wall(int, int)", "draw(int, int, int, int, int)", "field(int, int)",
        "colour(int, int, int, int)", "mark(int, int, boolean, boolean)", "lay()", "at(int, int)", "cube(int, int)",
        "lot(int, int, int, int)", "left(int)", "more(int, int)", "paint()", "scrape()", "changes(int)",
        "cut(int, int)", "sheet(int, int)", "broken(int)", "crates(int)", "crate(int, int)", "hand(int, boolean)",
        "days()", "dealt(int)", "count(int)", "digest()"};
    private static final String[] BARRED = {"throw", "throws", "try", "catch", "finally", "synchronized", "assert",
        "import", "package", "protected", "volatile", "transient", "native", "instanceof", "System", "Thread",
        "hashCode", "toString", "float", "double", "var", "yield", "goto", "Object"};
    private static final int MOST_LINES = 60;

    public static void main(String[] args) throws IOException {
        String code = withoutComments(Files.readString(SOURCE));
        theFace();
        barredWords(code);
        membersOfAllClasses();
        shortMethods(code);
        Due.end("LanguageTest");
    }

    private static String withoutComments(String source) {
        return source.replaceAll("(?s)/\\*.*?\\*/", "").replaceAll("//[^\\n]*", "");
    }

    private static void not(String what, boolean found) {
        Due.is(what, found ? 1 : 0, 0);
    }

    private static void theFace() {
        Set<String> due = new TreeSet<>(Set.of(CALLS));
        Set<String> found = new TreeSet<>();
        Set<String> hidden = new TreeSet<>();
        Set<String> names = new TreeSet<>();
        for (Method method : MosaicShop.class.getDeclaredMethods()) {
            if (Modifier.isPublic(method.getModifiers())) {
                found.add(method.toGenericString().replaceAll(".*MosaicShop\\.", "").replace(",", ", "));
                names.add(method.getName());
                Class<?> answer = method.getName().equals("digest") ? long.class : int.class;
                not("the answer of " + method, method.getReturnType() != answer);
            } else {
                hidden.add(method.getName());
                not("rule 1: not private: " + method, !Modifier.isPrivate(method.getModifiers()));
            }
        }
        not("the face is " + found + ", due is " + due, !found.equals(due));
        hidden.retainAll(names);
        not("rule 1: private ones with public names: " + hidden, !hidden.isEmpty());
        Due.is("one constructor", MosaicShop.class.getDeclaredConstructors().length, 1);
        Due.is("a public one without arguments", MosaicShop.class.getConstructors()[0].getParameterCount(), 0);
        Due.is("four public constants", MosaicShop.class.getFields().length, 4);
        not("final", !Modifier.isFinal(MosaicShop.class.getModifiers()));
    }

    private static void barredWords(String code) {
        for (String word : BARRED) {
            not("rules 3, 4, 6, 13: " + word, Pattern.compile("\\b" + word + "\\b").matcher(code).find());
        }
        not("rule 2: lambda", code.contains("->"));
        not("rule 2: method reference", code.contains("::"));
        not("rule 5: static block", Pattern.compile("static\\s*\\{").matcher(code).find());
        not("rule 4: Exact", code.contains("Exact"));
        not("rule 6: text", code.contains("\""));
    }

    private static void membersOfAllClasses() {
        Class<?>[] inside = MosaicShop.class.getDeclaredClasses();
        not("rule 11: classes: " + inside.length, inside.length > 12);
        members(MosaicShop.class);
        for (Class<?> one : inside) {
            not("rule 2: " + one + " is not static", !Modifier.isStatic(one.getModifiers()));
            not("rule 1: " + one + " is public", Modifier.isPublic(one.getModifiers()));
            Due.is("rule 2: classes inside " + one, one.getDeclaredClasses().length, 0);
            members(one);
        }
    }

    private static void members(Class<?> owner) {
        int fields = 0;
        for (Field field : owner.getDeclaredFields()) {
            boolean constant = Modifier.isStatic(field.getModifiers());
            fields += constant ? 0 : 1;
            not("rule 5: not final: " + field, constant && !Modifier.isFinal(field.getModifiers()));
            not("rule 1: package-visible: " + field, owner == MosaicShop.class
                && !Modifier.isPublic(field.getModifiers()) && !Modifier.isPrivate(field.getModifiers()));
        }
        not("rule 11: fields of " + owner + ": " + fields, fields > 20);
        for (Method method : owner.getDeclaredMethods()) {
            not("rule 11: parameters of " + method, method.getParameterCount() > 7);
            not("rule 2: made by the compiler: " + method, method.isSynthetic());
        }
    }

    /** A method begins with a line that ends in ") {" at one or two steps in, and ends with a brace as far in. */
    private static void shortMethods(String code) {
        Matcher method = Pattern.compile("(?ms)^(    |        )[^\\s}][^\\n;]*\\) \\{\\n.*?^\\1\\}").matcher(code);
        int methods = 0;
        while (method.find()) {
            methods++;
            long lines = method.group().lines().count();
            not("rule 11: " + lines + " lines: " + method.group().lines().findFirst().orElse(""), lines > MOST_LINES);
        }
        not("methods found: " + methods, methods < CALLS.length);
    }
}
