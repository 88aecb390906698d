import java.io.IOException;
import java.net.URL;
import java.net.URLClassLoader;
import java.nio.file.Files;
import java.nio.file.Path;
import java.util.ArrayList;
import java.util.Comparator;
import java.util.List;
import java.util.Set;
import java.util.TreeSet;
import java.util.regex.Matcher;
import java.util.regex.Pattern;
import java.util.stream.Stream;
import javax.tools.ToolProvider;

/** What README.md says holds: its examples give the answers that stand behind the calls, and it leaves no call out. */
public final class ReadmeTest {
    private static final Pattern FENCED = Pattern.compile("```java\n(.*?)```", Pattern.DOTALL);
    private static final Pattern ANSWERED = Pattern.compile("(?:int (\\w+) = )?(node\\..*);\\s+// -> (-?\\w+)(:.*)?");
    private static final Pattern TEST_NAME = Pattern.compile("`(\\w+Test)`");
    private static final Path TESTS = Path.of("src/test/java");

    private final Check check = new Check();
    private final String readme;

    private ReadmeTest(String readme) {
        this.readme = readme;
    }

    public static void main(String[] args) throws Exception {
        ReadmeTest test = new ReadmeTest(Files.readString(Path.of("README.md")));
        test.examples();
        test.calls();
        test.tests();
        test.nonces();
        test.check.end();
    }

    private void examples() throws Exception {
        List<String> examples = new ArrayList<>();
        Matcher fenced = FENCED.matcher(readme);
        while (fenced.find()) {
            examples.add(fenced.group(1));
        }
        check.part("README.md");
        check.due("examples", examples.size(), 2);
        for (int i = 0; i < examples.size(); i++) {
            check.part("example " + (i + 1) + " of README.md");
            runExample(examples.get(i).split("\n"));
        }
    }

    private void runExample(String[] lines) throws Exception {
        StringBuilder body = new StringBuilder();
        List<String> calls = new ArrayList<>();
        List<String> told = new ArrayList<>();
        for (String line : lines) {
            Matcher answered = ANSWERED.matcher(line);
            if (!answered.matches()) {
                check.due("only the constructor tells no answer: " + line, line.contains("= new BlockMesh("), true);
                body.append(line).append('\n');
                continue;
            }
            String name = answered.group(1);
            body.append(name == null ? "" : line + "\n");
            body.append("answers.add(").append(name == null ? answered.group(2) : name).append(");\n");
            calls.add(answered.group(2));
            told.add(answered.group(3));
        }
        List<?> answers = answersOf(body.toString());
        for (int i = 0; i < told.size(); i++) {
            String got = String.valueOf(answers.get(i));
            check.due(calls.get(i) + " is told as " + told.get(i) + ", came " + got, got.equals(told.get(i)), true);
        }
    }

    /** Compiles the lines of an example and runs them. */
    private static List<?> answersOf(String body) throws Exception {
        Path place = Files.createTempDirectory("readme");
        try {
            Path source = place.resolve("Example.java");
            Files.writeString(source, "public final class Example {\n"
                    + "public static java.util.List<Object> answers() {\n"
                    + "java.util.List<Object> answers = new java.util.ArrayList<>();\n" + body
                    + "return answers;\n}\n}\n");
            int wrong = ToolProvider.getSystemJavaCompiler().run(null, null, null, "-cp",
                    System.getProperty("java.class.path"), "-d", place.toString(), source.toString());
            if (wrong != 0) {
                throw new IllegalStateException("an example of README.md does not compile");
            }
            try (URLClassLoader loader = new URLClassLoader(new URL[] {place.toUri().toURL()})) {
                return (List<?>) loader.loadClass("Example").getMethod("answers").invoke(null);
            }
        } finally {
            delete(place);
        }
    }

    private static void delete(Path place) throws IOException {
        try (Stream<Path> inside = Files.walk(place)) {
            for (Path path : inside.sorted(Comparator.reverseOrder()).toList()) {
                Files.delete(path);
            }
        }
    }

    /** The table has a row for the constructor and for each method of the document's face. */
    private void calls() throws IOException {
        check.part("The calls of README.md");
        String document = Files.readString(Path.of("../shared/DOC.md"));
        Matcher member = Pattern.compile("    public ([^\n]*\\));").matcher(document);
        int rows = 0;
        while (member.find()) {
            rows++;
            check.due("row of " + member.group(1), readme.contains("\n| `" + member.group(1) + "` | "), true);
        }
        check.due("rows", readme.split("\n\\| `", -1).length - 1, rows);
    }

    /** Each test of the project is named, and what is named is there. */
    private void tests() throws IOException {
        check.part("Tests of README.md");
        Set<String> named = new TreeSet<>();
        Matcher name = TEST_NAME.matcher(readme);
        while (name.find()) {
            named.add(name.group(1));
            check.due(name.group(1) + " is there", Files.exists(TESTS.resolve(name.group(1) + ".java")), true);
        }
        try (Stream<Path> files = Files.list(TESTS)) {
            for (Path file : files.filter(f -> f.toString().endsWith("Test.java")).toList()) {
                String test = file.getFileName().toString().replace(".java", "");
                check.due(test + " is named", named.contains(test), true);
            }
        }
    }

    /** "Of the beginnings 0, 1 << 29, 2 << 29 and 3 << 29 at least one does"; "often none of them". */
    private void nonces() {
        check.part("Nonces of README.md");
        int wrong = 0;
        for (int secret = -20; secret < 20; secret++) {
            int right = 0;
            for (int turn = 0; turn < 4; turn++) {
                LimitedMesh mesh = new LimitedMesh(0, check);
                int answer = mesh.receive(mesh.template(secret, turn << 29));
                right += answer == 0 ? 1 : 0;
                wrong += answer == -2 ? 1 : 0;
            }
            check.due("one of the four is right for secret " + secret, right >= 1, true);
        }
        check.due("often none of forty is right", wrong > 80, true);
    }
}
