import java.io.IOException;
import java.nio.file.Files;
import java.nio.file.Path;
import java.util.regex.Matcher;
import java.util.regex.Pattern;

/** What README.md says of an answer is what the class answers and what the document's rules give. */
public final class ReadmeTest {
    /** A line such as: int bits = rice.codeLen(0, 6);   // 4: the length */
    private static final Pattern CALL =
        Pattern.compile("(?:int \\w+ = )?rice\\.(\\w+)\\((-?\\d+)(?:, (-?\\d+))?\\);\\s*// (-?\\d+)(?::.*)?");

    public static void main(String[] args) throws IOException {
        examples();
        Due.end("ReadmeTest");
    }

    private static void examples() throws IOException {
        Due.sentence("README.md: the answers told beside the calls");
        String[] blocks = Files.readString(Path.of("README.md")).split("```");
        for (int i = 1; i < blocks.length; i += 2) {
            if (blocks[i].startsWith("java")) {
                run(blocks[i].substring("java".length()));
            }
        }
    }

    /** A block's calls are one run on a new object, so each answer rests on the calls before it. */
    private static void run(String block) {
        RiceAdapt x = new RiceAdapt();
        Model due = new Model();
        for (String line : block.strip().split("\n")) {
            Matcher call = CALL.matcher(line.strip());
            if (call.matches()) {
                int number = Integer.parseInt(call.group(2));
                int m = call.group(3) == null ? 0 : Integer.parseInt(call.group(3));
                int told = Integer.parseInt(call.group(4));
                Due.equal(answer(x, call.group(1), number, m), told, "the class, for the line: %s", line);
                Due.equal(answer(due, call.group(1), number, m), told, "the document's rules, for the line: %s", line);
            } else {
                boolean start = line.equals("RiceAdapt rice = new RiceAdapt();");
                Due.holds(start, "the line is a call with its answer: %s", line);
            }
        }
    }

    private static int answer(RiceAdapt x, String name, int number, int m) {
        switch (name) {
            case "k": return x.k(number);
            case "codeLen": return x.codeLen(number, m);
            case "update": return x.update(number, m);
            case "cell": return x.cell(number);
            default: throw new IllegalArgumentException(name);
        }
    }

    private static int answer(Model x, String name, int number, int m) {
        switch (name) {
            case "k": return x.k(number);
            case "codeLen": return x.codeLen(number, m);
            case "update": return x.update(number, m);
            case "cell": return x.cell(number);
            default: throw new IllegalArgumentException(name);
        }
    }
}
