import java.io.IOException;
import java.nio.file.Files;
import java.nio.file.Path;
import java.util.ArrayList;
import java.util.List;

/** The document, read so that the class and README.md can be held against its own words. */
final class Document {
    private static final String PROMISE = "## Promise ";
    private static final String AHEAD = "Ahead of the calls ";
    private static final String SAYS = " the interface says: ";

    private final List<String> lines;

    private Document(List<String> lines) {
        this.lines = lines;
    }

    static Document read() throws IOException {
        return new Document(Files.readAllLines(Path.of("../shared/DOC.md")));
    }

    /** What a promise says of its call: which one it is, what it takes, does and answers, and what it throws. */
    record Promise(String name, String call, List<String> takes, List<String> does, List<String> refusals) {
    }

    List<Promise> promises() {
        List<Promise> promises = new ArrayList<>();
        for (String line : lines) {
            if (line.startsWith(PROMISE)) {
                promises.add(promise(line.substring("## ".length())));
            }
        }
        return promises;
    }

    private Promise promise(String title) {
        List<String> takes = new ArrayList<>();
        List<String> does = new ArrayList<>();
        List<String> refusals = new ArrayList<>();
        List<String> said = section(title);
        String first = said.get(0);
        int callEnds = first.indexOf('`', 1);
        said.set(0, first.substring(callEnds + "`: ".length()));
        for (String line : said) {
            if (line.startsWith("- ")) {
                takes.add(line.substring("- ".length()));
            } else if (line.startsWith("Throws ")) {
                refusals.add(line.substring("Throws ".length()));
            } else {
                does.add(line);
            }
        }
        return new Promise(title, first.substring(1, callEnds).replaceFirst(" throws .*", ""), takes, does, refusals);
    }

    /** The lines of a section that are not empty. */
    List<String> section(String title) {
        List<String> found = new ArrayList<>();
        boolean within = false;
        for (String line : lines) {
            if (line.startsWith("## ")) {
                within = line.equals("## " + title);
            } else if (within && !line.isBlank()) {
                found.add(line);
            }
        }
        return found;
    }

    /** The methods of the public face, as "type name(parameters) throws exceptions". */
    List<String> face() {
        List<String> face = new ArrayList<>();
        for (String line : section("The public face")) {
            String member = line.strip();
            if (member.startsWith("public ") && member.endsWith(";") && !member.startsWith("public FrostPane()")) {
                face.add(member.substring("public ".length(), member.length() - 1));
            }
        }
        return face;
    }

    /** The names of the calls in their order, what the interface says ahead of some of them among them. */
    List<String> order() {
        List<String> order = new ArrayList<>();
        for (String line : section("Terms")) {
            if (line.startsWith(AHEAD)) {
                int said = line.indexOf(SAYS);
                order.add(line.substring(said + SAYS.length(), line.length() - 1));
                for (String name : line.substring(AHEAD.length(), said).split(", ")) {
                    order.add(name.replace("`", ""));
                }
            }
        }
        return order;
    }

    /** What the terms say of a pane, but for what is said of the interface. */
    List<String> terms() {
        List<String> terms = section("Terms");
        terms.removeIf(line -> line.startsWith(AHEAD) || line.startsWith("```"));
        return terms;
    }
}
