import java.io.ByteArrayOutputStream;
import java.io.File;
import java.io.IOException;
import java.io.PrintStream;
import java.net.URL;
import java.net.URLClassLoader;
import java.nio.file.Files;
import java.nio.file.Path;
import java.util.Comparator;
import java.util.List;
import java.util.stream.Collectors;
import java.util.stream.Stream;
import javax.tools.JavaCompiler;
import javax.tools.ToolProvider;

/** README.md tells of each call in the document's words, and its example gives what it says there. */
public final class ReadmeTest {
    private final Check check = new Check("ReadmeTest");
    private final Document document;
    private final String readme;

    private ReadmeTest(Document document, String readme) {
        this.document = document;
        this.readme = readme;
    }

    public static void main(String[] args) throws Exception {
        ReadmeTest test = new ReadmeTest(Document.read(), Files.readString(Path.of("README.md")));
        test.tellsOfEachCall();
        test.tellsTheTerms();
        test.tellsOfEachTest();
        test.exampleGivesWhatItSays();
        test.check.end();
    }

    private void tellsOfEachCall() {
        check.same("promises read", document.promises().size(), 31);
        List<String> lines = readme.lines().toList();
        for (Document.Promise promise : document.promises()) {
            String row = "| `" + promise.call() + "` | " + told(promise.takes(), "; ") + " | "
                    + told(promise.does(), " ") + " | " + told(promise.refusals(), "; ") + " |";
            check.same(promise.name() + ", its row: " + row, lines.contains(row), true);
        }
    }

    private static String told(List<String> parts, String between) {
        return parts.isEmpty() ? "nothing" : String.join(between, parts);
    }

    private void tellsTheTerms() {
        check.same("paragraphs of Terms read", document.terms().size() > 5, true);
        for (String title : List.of("What it is", "Not promised")) {
            check.same("paragraphs of " + title + " read", document.section(title).isEmpty(), false);
            document.section(title).forEach(this::tells);
        }
        document.terms().forEach(this::tells);
    }

    private void tells(String paragraph) {
        check.same("it says: " + paragraph, onOneLine(readme).contains(onOneLine(paragraph)), true);
    }

    private static String onOneLine(String text) {
        return text.replaceAll("\\s+", " ");
    }

    private void tellsOfEachTest() throws IOException {
        try (Stream<Path> sources = Files.list(Path.of("src/test/java"))) {
            for (Path source : sources.sorted().toList()) {
                String name = source.getFileName().toString().replace(".java", "");
                check.same("it tells of " + name, readme.contains("`" + name + "`"), true);
            }
        }
    }

    // ---- the example

    private void exampleGivesWhatItSays() throws Exception {
        int codeStarts = readme.indexOf("```java\n");
        check.same("there is an example", codeStarts >= 0, true);
        if (codeStarts >= 0) {
            String due = block("text", codeStarts).lines().collect(Collectors.joining("\n"));
            check.same("what it says is not empty", due.isEmpty(), false);
            check.same("what the example gives", answered(block("java", codeStarts)), due);
        }
    }

    private String block(String language, int from) {
        String opens = "```" + language + "\n";
        int start = readme.indexOf(opens, from) + opens.length();
        return readme.substring(start, readme.indexOf("```", start));
    }

    private static String answered(String code) throws Exception {
        Path place = Files.createTempDirectory("example");
        try {
            Path source = Files.writeString(place.resolve("Example.java"), code);
            String compiler = compiled(source, place);
            return compiler.isEmpty() ? printed(place) : "it does not compile: " + compiler;
        } finally {
            takeAway(place);
        }
    }

    private static String compiled(Path source, Path into) {
        JavaCompiler compiler = ToolProvider.getSystemJavaCompiler();
        ByteArrayOutputStream told = new ByteArrayOutputStream();
        int code = compiler.run(null, told, told, "-Xlint:all", "-Werror", "-cp",
                System.getProperty("java.class.path"), "-d", into.toString(), source.toString());
        return code == 0 ? "" : "exit code " + code + ", " + told;
    }

    private static String printed(Path place) throws Exception {
        PrintStream before = System.out;
        ByteArrayOutputStream written = new ByteArrayOutputStream();
        try (URLClassLoader loader = new URLClassLoader(new URL[] {place.toUri().toURL()});
                PrintStream catcher = new PrintStream(written)) {
            System.setOut(catcher);
            loader.loadClass("Example").getMethod("main", String[].class).invoke(null, (Object) new String[0]);
        } finally {
            System.setOut(before);
        }
        return written.toString().lines().collect(Collectors.joining("\n"));
    }

    private static void takeAway(Path place) throws IOException {
        try (Stream<Path> made = Files.walk(place)) {
            made.sorted(Comparator.reverseOrder()).map(Path::toFile).forEach(File::delete);
        }
    }
}
