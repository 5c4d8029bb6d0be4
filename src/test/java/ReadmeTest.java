import java.io.IOException;
import java.nio.file.Files;
import java.nio.file.Path;
import java.util.List;
import java.util.regex.Matcher;
import java.util.regex.Pattern;

/** README.md: its run of calls answers as it says, and it tells what NONE and OUT are and how the tests are run. */
public final class ReadmeTest {

    private static final Runs RUNS = new Runs();

    private static final Pattern BLOCK = Pattern.compile("(?s)```java\n(.*?)```");

    /** A call, its answer, and behind two spaces a remark in brackets, which may be left out. */
    private static final Pattern CALL = Pattern.compile("ledger\\.(\\w+\\([^()]*\\)); +// (.+?)(?:  \\((.+)\\))?");

    private static final int FEWEST_CALLS = 10;

    public static void main(String[] args) throws IOException {
        String readme = Files.readString(Path.of("README.md"));
        runOfCalls(readme);
        meanings(readme);
        RUNS.end();
    }

    private static void runOfCalls(String readme) {
        Matcher block = BLOCK.matcher(readme);
        boolean isShown = block.find();
        RUNS.check("README.md shows a run of calls", isShown, true);
        if (!isShown) {
            return;
        }
        List<String> lines = block.group(1).lines().toList();
        RUNS.check("the run begins with an object", lines.get(0), "Rangeledger ledger = new Rangeledger();");
        RUNS.check("the run has some calls", lines.size() > FEWEST_CALLS, true);
        Rangeledger ledger = new Rangeledger();
        for (String line : lines.subList(1, lines.size())) {
            call(ledger, line);
        }
        RUNS.check("the run shows NONE", block.group(1).contains("// -10000  (NONE"), true);
        RUNS.check("the run shows OUT", block.group(1).contains("// -20000  (OUT"), true);
        // In Java an exception would end the run: only the last call may throw one.
        RUNS.check("only the last call throws", lines.stream().filter(line -> line.contains("// throws ")).toList(),
            lines.subList(lines.size() - 1, lines.size()));
        RUNS.check("there is one run", block.find(), false);
    }

    private static void call(Rangeledger ledger, String line) {
        Matcher call = CALL.matcher(line);
        if (!call.matches()) {
            RUNS.check("a call with its answer", line, "ledger.call(arguments);  // answer  (remark)");
            return;
        }
        String due = call.group(2).replaceFirst("^throws ", "! ");
        RUNS.check("README.md: " + line, Runs.answer(ledger, call.group(1)), due);
        String remark = call.group(3) == null ? "" : call.group(3);
        RUNS.check("told as NONE: " + line, remark.startsWith("NONE"), due.equals("-10000"));
        RUNS.check("told as OUT: " + line, remark.startsWith("OUT"), due.equals("-20000"));
    }

    private static void meanings(String readme) {
        for (String words : new String[] {"`NONE` is -10000", "`OUT` is -20000", "    .ci/run\n"}) {
            RUNS.check("README.md tells " + words, readme.contains(words), true);
        }
        RUNS.check("the document has the same NONE and OUT", Doc.describes("NONE is -10000, OUT is -20000"), true);
    }
}
