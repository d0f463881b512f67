import java.io.IOException;
import java.nio.file.Files;
import java.nio.file.Path;
import java.util.List;
import java.util.regex.Matcher;
import java.util.regex.Pattern;

/**
 * Makes a program, ReadmeRuns, of the Java lines of README.md: each call that stands there is
 * compared with the answer behind it. Arguments: README.md, and the file to write. Ends with exit
 * code 1 if a line is of no known shape, so that no call goes by without an answer.
 */
final class ReadmeProgram {
    private static final Pattern CALL =
            Pattern.compile("x\\.(\\w+)\\((.*)\\); *// (-?\\d+|BAD|NONE|FULL)(: (.+))?");
    private static final Pattern OTHER_LINE =
            Pattern.compile("SynonymGraphs x = new SynonymGraphs\\(\\);|say\\(x, \"[ -~]*\"\\);|");

    private final StringBuilder helpers = new StringBuilder();
    private final StringBuilder calls = new StringBuilder();
    private int unknown = 0;

    public static void main(String[] args) throws IOException {
        ReadmeProgram program = new ReadmeProgram();
        program.read(Files.readAllLines(Path.of(args[0])));
        Files.writeString(Path.of(args[1]), program.text());
        if (program.unknown > 0) {
            System.exit(1);
        }
    }

    private void read(List<String> lines) {
        boolean inBlock = false;
        boolean ofHelpers = false;
        for (int i = 0; i < lines.size(); i++) {
            String line = lines.get(i);
            if (line.startsWith("```")) {
                inBlock = line.equals("```java");
                ofHelpers = inBlock && i + 1 < lines.size() && lines.get(i + 1).startsWith("static ");
            } else if (inBlock && ofHelpers) {
                helpers.append("    ").append(line).append('\n');
            } else if (inBlock) {
                addLine(line, i + 1);
            }
        }
    }

    private void addLine(String line, int place) {
        Matcher call = CALL.matcher(line);
        if (call.matches()) {
            addCall(call, place);
        } else if (OTHER_LINE.matcher(line).matches()) {
            add(line);
        } else {
            unknown++;
            System.out.println("README.md, line " + place + " has no answer that can be read: " + line);
        }
    }

    private void addCall(Matcher line, int place) {
        String arguments = line.group(2);
        String call = "x." + line.group(1) + "(" + arguments + ")";
        String label = "\"line " + place + ", " + call + "\"";
        String answer = line.group(3);
        add("check.due(" + label + ", " + call + ", "
                + (answer.matches("[A-Z]+") ? "SynonymGraphs." + answer : answer + "L") + ");");
        String remark = line.group(5);
        if (remark != null && remark.matches("'.'")) {
            add("check.due(" + label + ", " + remark + ", " + answer + "L);");
        } else if (remark != null && remark.matches("\"[^\"]*\"")) {
            addQuoted(line.group(1), arguments, label, remark);
        }
    }

    /** What is quoted alone behind an answer is what the numbers fed or told spell. */
    private void addQuoted(String name, String arguments, String label, String quoted) {
        String all = arguments.replaceAll("-1$", "i");
        if (name.equals("feed")) {
            add("check.fed(" + label + ", " + quoted + ", " + arguments + ");");
        } else if (name.equals("word")) {
            add("check.spells(" + label + ", " + quoted + ", i -> x.word(" + all + "));");
        } else if (!all.equals(arguments)) {
            add("check.tells(" + label + ", " + quoted + ", x, i -> x." + name + "(" + all + "));");
        } else {
            add("check.tells(" + label + ", " + quoted + ", x, i -> i > 0 ? -1 : x." + name + "(" + all + "));");
        }
    }

    private void add(String line) {
        calls.append("        ").append(line).append('\n');
    }

    private String text() {
        return "final class ReadmeRuns {\n" + helpers
                + "    public static void main(String[] args) {\n"
                + "        ReadmeCheck check = new ReadmeCheck();\n" + calls
                + "        check.end();\n    }\n}\n";
    }
}
