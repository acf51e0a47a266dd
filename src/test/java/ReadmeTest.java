import java.io.IOException;
import java.lang.reflect.Method;
import java.lang.reflect.Modifier;
import java.nio.file.DirectoryStream;
import java.nio.file.Files;
import java.nio.file.Path;
import java.util.HashMap;
import java.util.Map;
import java.util.Set;
import java.util.TreeSet;
import java.util.regex.Matcher;
import java.util.regex.Pattern;

/** README.md: how each call of the public face is used, what it answers when it is refused, and how the tests run. */
public final class ReadmeTest {
    private static final Path README = Path.of("README.md");
    private static final Path TESTS = Path.of("src/test/java");
    private static final Pattern STEP = Pattern.compile("(?m)^shop\\.(\\w+)\\(([^)]*)\\); +// (-?\\d+)(: .+)?$");
    private static final Pattern ROW = Pattern.compile("(?m)^\\| `(\\w+)\\(([^)]*)\\)` \\| (.+?) \\| ?(.*?) ?\\|$");
    private static final Pattern REFUSAL = Pattern.compile("(?:^|; )`(BAD|NO|FULL)`(?=$|[:;])");
    /** Each call with the refusals that the document tells of it, in their order. */
    private static final String[] REFUSED = {"MosaicShop:", "wall: BAD", "draw: BAD", "field: BAD", "colour: BAD",
        "mark: BAD", "lay:", "at: BAD", "cube: BAD", "lot: BAD FULL", "left: BAD", "more: BAD NO", "paint: NO",
        "scrape: NO", "changes: BAD NO", "cut: BAD NO", "sheet: BAD NO", "broken: BAD NO", "crates: BAD NO",
        "crate: BAD NO", "hand: BAD FULL", "days: NO", "dealt: BAD NO", "count: BAD NO", "digest:"};

    private final String page;
    private final Map<String, Method> face = new HashMap<>();

    private ReadmeTest(String page) {
        this.page = page;
        for (Method method : MosaicShop.class.getDeclaredMethods()) {
            if (Modifier.isPublic(method.getModifiers())) {
                face.put(method.getName(), method);
            }
        }
    }

    public static void main(String[] args) throws IOException, ReflectiveOperationException {
        ReadmeTest test = new ReadmeTest(Files.readString(README));
        test.exampleAnswersAsItSays();
        test.eachCallIsTold();
        test.refusalsAreTold();
        test.testsAreTold();
        Due.end("ReadmeTest");
    }

    private void has(String words) {
        Due.is("README.md has: " + words, page.contains(words) ? 1 : 0, 1);
    }

    /** The example is made step by step, and is to use each call of the face. */
    private void exampleAnswersAsItSays() throws ReflectiveOperationException {
        MosaicShop shop = new MosaicShop();
        Set<String> unused = new TreeSet<>(face.keySet());
        Matcher step = STEP.matcher(page);
        int steps = 0;
        while (step.find()) {
            steps++;
            Method method = face.get(step.group(1));
            Due.is("README.md: there is a call " + step.group(1), method == null ? 0 : 1, 1);
            if (method != null) {
                Number answer = (Number) method.invoke(shop, inputs(method, step.group(2)));
                Due.is("README.md: " + step.group(), answer.longValue(), Long.parseLong(step.group(3)));
                unused.remove(step.group(1));
            }
        }
        Due.is("README.md: calls that the example does not use", unused.toString(), "[]");
        Due.is("README.md: steps that could be read", steps, page.lines().filter(l -> l.startsWith("shop.")).count());
    }

    private static Object[] inputs(Method method, String told) {
        String[] parts = told.isEmpty() ? new String[0] : told.split(", ");
        Class<?>[] kinds = method.getParameterTypes();
        Object[] inputs = new Object[parts.length];
        for (int i = 0; i < parts.length; i++) {
            boolean flag = i < kinds.length && kinds[i] == boolean.class;
            inputs[i] = flag ? (Object) Boolean.valueOf(parts[i]) : (Object) Integer.valueOf(parts[i]);
        }
        return inputs;
    }

    /** A row for each call, in the order of the face, with its inputs, its use and how it is refused. */
    private void eachCallIsTold() {
        StringBuilder found = new StringBuilder();
        Matcher row = ROW.matcher(page);
        while (row.find()) {
            String name = row.group(1);
            int inputs = row.group(2).isEmpty() ? 0 : row.group(2).split(", ").length;
            int due = face.containsKey(name) ? face.get(name).getParameterCount() : 0;
            Due.is("README.md: inputs of " + name, inputs, due);
            found.append(name).append(':');
            Matcher refusal = REFUSAL.matcher(row.group(4));
            while (refusal.find()) {
                found.append(' ').append(refusal.group(1));
            }
            found.append('\n');
        }
        Due.is("README.md: calls and refusals", found.toString(), String.join("\n", REFUSED) + "\n");
        Due.is("calls of the face", face.size(), REFUSED.length - 1);
    }

    private void refusalsAreTold() {
        has("| " + MosaicShop.BAD + " | `BAD` |");
        has("| " + MosaicShop.NO + " | `NO` |");
        has("| " + MosaicShop.FULL + " | `FULL` |");
        has("`NONE` (" + MosaicShop.NONE + ")");
        has("A call that is refused changes nothing");
        has("the number of a SHEET is `BAD` only below 0");
    }

    private void testsAreTold() throws IOException {
        has("bash .ci/run");
        has("../shared/tests");
        try (DirectoryStream<Path> files = Files.newDirectoryStream(TESTS, "*Test.java")) {
            for (Path file : files) {
                has("`" + file.getFileName().toString().replace(".java", "") + "`");
            }
        }
    }
}
