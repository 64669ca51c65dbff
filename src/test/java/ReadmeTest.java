import java.io.IOException;
import java.nio.file.DirectoryStream;
import java.nio.file.Files;
import java.nio.file.Path;
import java.util.TreeSet;
import java.util.regex.Matcher;
import java.util.regex.Pattern;

/** What README.md says of the class and of its tests holds: the example, the calls, the constants, the tables. */
public final class ReadmeTest {
    private static final Check C = new Check("ReadmeTest");
    private static final Pattern TEXT = Pattern.compile("String text = \"([^\"]*)\";");
    private static final Pattern CALL = Pattern.compile("x\\.(\\w+\\([^)]*\\)); +// (-?\\d+)(?:: .*)?");
    private static final String FRAME = "LoneAdjective x = new LoneAdjective();\nfor (int k = 0; k < text.length(); k++) {\n"
        + "    x.feed(text.charAt(k));\n}\n";

    public static void main(String[] args) throws IOException {
        String page = Files.readString(Path.of("README.md"));
        example(between(page, "```java\n", "```"));
        calls(between(page, "### The calls", "### "));
        constants(between(page, "### What is refused", "## "));
        clauses(between(page, "### The text", "### "));
        tests(page.substring(page.indexOf("## How to run its tests")));
        C.end();
    }

    private static String between(String page, String from, String to) {
        int start = page.indexOf(from) + from.length();
        C.holds("README.md has " + from.trim(), start >= from.length());
        return page.substring(start, page.indexOf(to, start));
    }

    private static TreeSet<String> found(String regex, String in) {
        TreeSet<String> all = new TreeSet<>();
        Matcher m = Pattern.compile(regex).matcher(in);
        while (m.find()) {
            all.add(m.group(1));
        }
        return all;
    }

    /** Each call of the example answers what stands behind it; the rest of it is as it must be. */
    private static void example(String block) {
        StringBuilder frame = new StringBuilder();
        Run run = new Run(C, "README.md");
        int answered = 0;
        for (String line : block.split("\n")) {
            Matcher text = TEXT.matcher(line);
            Matcher call = CALL.matcher(line);
            if (text.matches()) {
                run.feeds(text.group(1));
            } else if (call.matches()) {
                run.is(call.group(1) + " = " + call.group(2));
                answered++;
            } else {
                frame.append(line).append('\n');
            }
        }
        C.holds("the frame of the example: " + frame, frame.toString().equals(FRAME));
        C.holds("the example has calls", answered > 20);
    }

    /** The calls are those of the document, with its names. */
    private static void calls(String part) throws IOException {
        String document = Files.readString(Path.of("../shared/DOC.md"));
        TreeSet<String> face = new TreeSet<>();
        for (String call : found("public int (\\w+\\([^)]*\\));", document)) {
            face.add(call.replace("int ", ""));
        }
        C.due("calls of the document", face.size(), 32);
        C.holds("the calls that README.md names", found("`(\\w+\\([^)]*\\))`", part).equals(face));
    }

    private static void constants(String part) {
        String[] names = {"NONE", "UNKNOWN", "OUTSIDE", "NOT", "FULL"};
        int[] values = {Check.NONE, Check.UNKNOWN, Check.OUTSIDE, Check.NOT, Check.FULL};
        for (int k = 0; k < names.length; k++) {
            C.holds("README.md tells " + names[k], found("`" + names[k] + "`\\s\\((-?\\d+)", part).contains("" + values[k]));
        }
    }

    /** What the table of clauses says there can be at most, there can be, and not one more. */
    private static void clauses(String part) {
        String[] ahead = {"", "t7 0;", "t7 0;", "t7 0;p0 0;", "", "t7 0;p0 0;p0 0;p0 0;p0 0;", "t7 0;p0 0;d0 1 1 0;"};
        for (int k = 0; k < ahead.length; k++) {
            char word = "twpdrqo".charAt(k);
            String most = String.join("", found("\\| `" + word + "` [^|]*\\|[^|]*\\| ([^|]*) \\|", part));
            if (word == 'r') {
                C.holds("README.md on 'r': " + most, most.equals("each deed once"));
            } else {
                fill(word, ahead[k], most.matches("\\d+") ? Integer.parseInt(most) : 0);
            }
        }
    }

    private static void fill(char word, String ahead, int most) {
        C.holds("README.md tells how many of " + word, most > 0);
        StringBuilder text = new StringBuilder(ahead);
        for (int n = 0; n < most; n++) {
            switch (word) {
                case 't': text.append("t7 0;"); break;
                case 'w': text.append("w" + n % 7 + " " + (n + 1 + n / 7) % 7 + " 1;"); break;
                case 'p': text.append("p0 0;"); break;
                case 'd': text.append("d0 1 1 0;"); break;
                case 'q': text.append("q" + n % 4 + " " + (n + 1 + n / 4) % 4 + " 1;"); break;
                default: text.append("o1;");
            }
        }
        new Run(C, "README.md: so many of " + word).town(text.toString());
        new Run(C, "README.md: not one more of " + word).faulty(3, text + "^" + word);
    }

    /** The table has each test that there is, and no other; helpers that are named are there. */
    private static void tests(String part) throws IOException {
        TreeSet<String> tests = new TreeSet<>();
        TreeSet<String> helpers = new TreeSet<>();
        try (DirectoryStream<Path> files = Files.newDirectoryStream(Path.of("src/test/java"), "*.java")) {
            for (Path file : files) {
                String name = file.getFileName().toString().replace(".java", "");
                (name.endsWith("Test") ? tests : helpers).add(name);
            }
        }
        C.holds("the table has " + tests, found("\\| (\\w+Test) \\|", part).equals(tests));
        C.holds("of " + helpers + " each is named", found("`([A-Z]\\w+)`", part).equals(helpers));
        C.holds(".ci/run can be run", Files.isExecutable(Path.of(".ci/run")) && part.contains("    .ci/run\n"));
    }
}
