import java.io.IOException;
import java.nio.charset.StandardCharsets;
import java.nio.file.Files;
import java.nio.file.Path;
import java.util.ArrayList;
import java.util.Comparator;
import java.util.List;
import java.util.TreeSet;
import java.util.regex.Matcher;
import java.util.regex.Pattern;
import java.util.stream.Stream;

/** What README.md says holds: its code, its list of calls, its commands and its list of tests. */
public final class ReadmeTest {
    private static final Path README = Path.of("README.md");
    private static final Path DOCUMENT = Path.of("../shared/DOC.md");
    private static final Path MAIN = Path.of("src/main/java/InTwosInSpanish.java");
    private static final Path TESTS = Path.of("src/test/java");
    private static final Pattern TOLD_ANSWER =
            Pattern.compile("(?:int (\\w+) = )?(x\\.\\w+\\(.*\\)); +// (-?\\d+)(?::.*)?");
    private static final Pattern TOLD_CALL = Pattern.compile("\\| `(\\w+\\(.*\\))` \\| (\\d+) \\| .+ \\|");
    private static final Pattern PROMISE = Pattern.compile("## Promise (\\d+): (\\w+)");
    private static final Pattern SIGNATURE = Pattern.compile("`(?:int|long) (\\w+)\\((.*?)\\)`: .*");
    private static final Pattern TOLD_TEST = Pattern.compile("- `(\\w+)`: .*");
    private static int checks = 0;
    private static int wrong = 0;

    public static void main(String[] args) throws IOException, InterruptedException {
        List<String> readme = Files.readAllLines(README, StandardCharsets.UTF_8);
        Path room = Files.createTempDirectory("readme");
        try {
            codeAnswersAsTold(readme, room);
            commandsWork(readme, room);
        } finally {
            remove(room);
        }
        callsAreTheDocuments(readme);
        testsAreAllThere(readme);
        System.out.println(checks + " checks of README.md, " + wrong + " not as due");
        if (wrong != 0) {
            System.exit(1);
        }
    }

    private static void check(String what, boolean is) {
        checks++;
        if (!is) {
            wrong++;
            System.out.println(what);
        }
    }

    /** The code is compiled as it stands; only a line with an answer behind it is asked whether that comes. */
    private static void codeAnswersAsTold(List<String> readme, Path room) throws IOException, InterruptedException {
        List<List<String>> pieces = blocks(readme, "java");
        check("README.md has no code", !pieces.isEmpty());
        StringBuilder program = new StringBuilder("public final class ReadmeCode {\n    private static int wrong = 0;\n");
        StringBuilder calls = new StringBuilder();
        int answers = 0;
        for (int i = 0; i < pieces.size(); i++) {
            program.append("    private static void piece").append(i).append("() {\n");
            calls.append("        piece").append(i).append("();\n");
            for (String line : pieces.get(i)) {
                Matcher told = TOLD_ANSWER.matcher(line);
                answers += told.matches() ? 1 : 0;
                program.append(told.matches() ? asked(told) : line).append('\n');
            }
            program.append("    }\n");
        }
        program.append("    private static void due(String call, long got, long want) {\n")
                .append("        if (got != want) {\n            wrong++;\n")
                .append("            System.out.println(\"README.md: \" + call + \" answers \" + got);\n        }\n    }\n")
                .append("    public static void main(String[] args) {\n").append(calls)
                .append("        System.exit(wrong == 0 ? 0 : 1);\n    }\n}\n");
        check("README.md's code tells too few answers", answers >= 30);
        check("a number behind a call of README.md isn't looked at", answers == linesWithNumberBehind(pieces));
        Path file = room.resolve("ReadmeCode.java");
        Files.writeString(file, program.toString(), StandardCharsets.UTF_8);
        String classes = room.resolve("code").toString();
        check("README.md's code doesn't compile", run("javac", "-d", classes, MAIN.toString(), file.toString()));
        check("README.md's code answers otherwise than it says", run("java", "-cp", classes, "ReadmeCode"));
    }

    private static String asked(Matcher told) {
        String name = told.group(1);
        String call = told.group(2);
        String quoted = "\"" + call.replace("\"", "\\\"") + "\"";
        if (name == null) {
            return "due(" + quoted + ", " + call + ", " + told.group(3) + ");";
        }
        return "int " + name + " = " + call + "; due(" + quoted + ", " + name + ", " + told.group(3) + ");";
    }

    private static int linesWithNumberBehind(List<List<String>> pieces) {
        int n = 0;
        for (List<String> piece : pieces) {
            for (String line : piece) {
                n += line.matches(".*// *-?\\d.*") ? 1 : 0;
            }
        }
        return n;
    }

    /** The commands are run as they stand, but for out, which is elsewhere, and for .ci/run, which runs this test. */
    private static void commandsWork(List<String> readme, Path room) throws IOException, InterruptedException {
        Path own = room.resolve("MyEvening.java");
        Files.writeString(own, "public class MyEvening { public static void main(String[] args) {"
                + " System.exit(new InTwosInSpanish().status(0)); } }\n", StandardCharsets.UTF_8);
        int ran = 0;
        for (List<String> piece : blocks(readme, "sh")) {
            for (String line : piece) {
                if (line.equals(".ci/run")) {
                    check(".ci/run can't be run", Files.isExecutable(Path.of(".ci/run")));
                    continue;
                }
                String command = line.replace(" out ", " " + room.resolve("out") + " ")
                        .replace("MyEvening.java", own.toString());
                check("README.md's command fails: " + line, run(command.split(" ")));
                ran++;
            }
        }
        check("README.md tells other commands than it did", ran == 4);
    }

    private static void callsAreTheDocuments(List<String> readme) throws IOException {
        List<String> want = new ArrayList<>();
        String promise = "";
        for (String line : Files.readAllLines(DOCUMENT, StandardCharsets.UTF_8)) {
            Matcher heading = PROMISE.matcher(line);
            Matcher signature = SIGNATURE.matcher(line);
            if (heading.matches()) {
                promise = heading.group(1);
            } else if (signature.matches()) {
                String names = signature.group(2).replaceAll("(?:int|long|boolean) ", "");
                want.add(promise + " " + signature.group(1) + "(" + names + ")");
            }
        }
        List<String> got = new ArrayList<>();
        for (String line : readme) {
            Matcher told = TOLD_CALL.matcher(line);
            if (told.matches()) {
                got.add(told.group(2) + " " + told.group(1));
            }
        }
        check("the document has other calls than 66: " + want, want.size() == 66);
        check("README.md's calls are " + got + ", the document's " + want, got.equals(want));
    }

    private static void testsAreAllThere(List<String> readme) throws IOException {
        TreeSet<String> want = new TreeSet<>();
        try (Stream<Path> files = Files.list(TESTS)) {
            files.forEach(file -> want.add(file.getFileName().toString().replace(".java", "")));
        }
        TreeSet<String> got = new TreeSet<>();
        for (String line : readme) {
            Matcher told = TOLD_TEST.matcher(line);
            if (told.matches()) {
                got.add(told.group(1));
            }
        }
        check("README.md's tests are " + got + ", not " + want, got.equals(want));
    }

    private static List<List<String>> blocks(List<String> readme, String language) {
        List<List<String>> found = new ArrayList<>();
        List<String> block = null;
        for (String line : readme) {
            if (line.equals("```" + language)) {
                block = new ArrayList<>();
                found.add(block);
            } else if (line.startsWith("```")) {
                block = null;
            } else if (block != null) {
                block.add(line);
            }
        }
        return found;
    }

    private static boolean run(String... command) throws IOException, InterruptedException {
        return new ProcessBuilder(command).inheritIO().start().waitFor() == 0;
    }

    private static void remove(Path room) throws IOException {
        List<Path> all;
        try (Stream<Path> walk = Files.walk(room)) {
            all = walk.sorted(Comparator.reverseOrder()).toList();
        }
        for (Path path : all) {
            Files.delete(path);
        }
    }
}
