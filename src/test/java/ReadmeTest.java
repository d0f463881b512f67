import java.io.IOException;
import java.nio.file.Files;
import java.nio.file.Path;
import java.util.List;
import java.util.regex.Matcher;
import java.util.regex.Pattern;

/** README.md tells every call of the document's face, what it can refuse, and shows its answers. */
public final class ReadmeTest {
    private static final Check CHECK = new Check("readme");
    private static final List<String> REFUSALS = List.of("BAD", "NONE", "FULL", "fault");

    public static void main(String[] args) throws IOException {
        String readme = Files.readString(Path.of("README.md"));
        String document = Files.readString(Path.of("../shared/DOC.md"));
        Matcher face = Pattern.compile("public ((?:int|long) (\\w+)\\(.*\\));").matcher(document);
        int calls = 0;
        while (face.find()) {
            calls++;
            tells(readme, document, face.group(1), face.group(2));
        }
        CHECK.due("calls of the face", calls, 27);
        constants(readme);
        CHECK.holds("how to run the tests", readme.contains("\n    .ci/run\n"));
        everyTestIsNamed(readme);
        CHECK.end();
    }

    private static void tells(String readme, String document, String signature, String name) {
        String row = lineWith(readme, "| `" + signature + "` |");
        String promise = lineWith(document, "`" + signature + "`:").replace("FAULT", "fault");
        CHECK.holds("README.md tells " + signature, !row.isEmpty());
        CHECK.holds("DOC.md promises " + signature, !promise.isEmpty());
        for (String refusal : REFUSALS) {
            CHECK.holds(name + " and " + refusal, row.contains(refusal) == promise.contains(refusal));
        }
        CHECK.holds("README.md shows an answer of " + name,
                Pattern.compile("\nx\\." + name + "\\(.*\\); *// ").matcher(readme).find());
    }

    private static String lineWith(String text, String begin) {
        int at = text.indexOf("\n" + begin);
        return at < 0 ? "" : text.substring(at + 1, text.indexOf('\n', at + 1));
    }

    private static void constants(String readme) {
        CHECK.holds("BAD", readme.contains("`BAD` (" + SynonymGraphs.BAD + ")"));
        CHECK.holds("NONE", readme.contains("`NONE` (" + SynonymGraphs.NONE + ")"));
        CHECK.holds("FULL", readme.contains("`FULL` (" + SynonymGraphs.FULL + ")"));
    }

    private static void everyTestIsNamed(String readme) throws IOException {
        try (var files = Files.list(Path.of("src/test/java"))) {
            files.map(file -> file.getFileName().toString())
                    .filter(name -> name.endsWith("Test.java"))
                    .forEach(name -> CHECK.holds("README.md tells of " + name,
                            readme.contains("`" + name.replace(".java", "") + "`")));
        }
    }
}
