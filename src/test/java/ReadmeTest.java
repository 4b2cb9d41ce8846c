import java.io.File;
import java.io.IOException;
import java.nio.file.Files;
import java.nio.file.Path;
import java.util.ArrayList;
import java.util.Comparator;
import java.util.List;
import java.util.TreeSet;
import java.util.regex.Matcher;
import java.util.regex.Pattern;
import java.util.stream.Collectors;
import java.util.stream.Stream;

/**
 * README.md: each call that it shows answers what stands behind it ("p.call(..);  // answer: why"), each command
 * that it shows ends well and tells what the page says. Run where README.md stands.
 */
public final class ReadmeTest {
    private static final Due DUE = new Due("ReadmeTest");
    private static final Pattern BLOCK = Pattern.compile("(?ms)^```(\\w+)\n(.*?)^```$");
    private static final Pattern CLASS = Pattern.compile("(?s)public final class (\\w+) \\{.*?\\) \\{\n(.*)    \\}\n\\}\n");
    private static final Pattern ASKED = Pattern.compile("\\s*(?:int (\\w+) = )?(p\\.\\w+\\(.*\\)); +// ([^:]+)(?:: .*)?");
    private static final String RUNS = "ReadmeRuns";

    private final Path room;
    private final StringBuilder runs = new StringBuilder();
    private int runCount = 0;
    private int shown = 0;
    // what the last commands told
    private String told = "";

    private ReadmeTest(Path room) {
        this.room = room;
    }

    public static void main(String[] args) throws IOException, InterruptedException {
        String page = Files.readString(Path.of("README.md"));
        Path room = Files.createTempDirectory("readme");
        try {
            copy(Path.of("src"), room);
            ReadmeTest test = new ReadmeTest(room);
            test.blocks(page);
            test.runsAnswer(page);
        } finally {
            remove(room);
        }
        eachCallIsShown(page);
        eachTestIsNamed(page);
        testsAreRunBy(page, Path.of(".ci", "run"));
        DUE.end();
    }

    private void blocks(String page) throws IOException, InterruptedException {
        Matcher block = BLOCK.matcher(page);
        while (block.find()) {
            switch (block.group(1)) {
                case "java":
                    java(block.group(2));
                    break;
                case "sh":
                    commands(block.group(2));
                    break;
                default:
                    DUE.holds("the commands tell\n" + block.group(2) + "and not\n" + told, told.equals(block.group(2)));
                    shown++;
                    break;
            }
        }
        DUE.is("what commands tell is shown twice", shown, 2);
        DUE.holds("runs are shown: " + runCount, runCount >= 6);
    }

    private void java(String code) throws IOException {
        Matcher program = CLASS.matcher(code);
        boolean whole = program.matches();
        if (whole) {
            Files.writeString(room.resolve(program.group(1) + ".java"), code);
        }
        runs.append("    static void run").append(runCount).append("(Due due) {\n");
        runCount++;
        for (String line : (whole ? program.group(2) : code).split("\n")) {
            Matcher asked = ASKED.matcher(line);
            if (asked.matches()) {
                asked(asked);
            } else if (!line.contains("System.out.println(")) {
                DUE.holds("an answer stands behind " + line, !line.contains("p."));
                runs.append(line).append('\n');
            }
        }
        runs.append("    }\n");
    }

    private void asked(Matcher asked) {
        String call = asked.group(2);
        String name = asked.group(1);
        if (name != null) {
            runs.append("        int ").append(name).append(" = ").append(call).append(";\n");
        }
        is(call, name == null ? call : name, asked.group(3));
    }

    private void is(String what, String got, String due) {
        runs.append("        due.is(\"").append(what.replace("\"", "\\\"")).append("\", ").append(got).append(", ")
            .append(due).append(");\n");
    }

    private void commands(String lines) throws IOException, InterruptedException {
        StringBuilder all = new StringBuilder();
        for (String line : lines.split("\n")) {
            Process process = new ProcessBuilder("sh", "-c", line).directory(room.toFile()).redirectErrorStream(true)
                .start();
            all.append(new String(process.getInputStream().readAllBytes()));
            DUE.is("the command " + line, process.waitFor(), 0);
        }
        told = all.toString();
    }

    // all runs of the page as one program, with each constant for which it names a number
    private void runsAnswer(String page) throws IOException, InterruptedException {
        runs.append("    static void constants(Due due) {\n");
        Matcher constant = Pattern.compile("`(PutOn\\.\\w+)` \\((-?\\d+)\\)").matcher(page);
        int constants = 0;
        while (constant.find()) {
            is(constant.group(1), constant.group(1), constant.group(2) + "L");
            constants++;
        }
        DUE.is("constants are named", constants, 5);
        StringBuilder program = new StringBuilder("final class " + RUNS + " {\n");
        program.append(runs).append("    }\n    public static void main(String[] args) {\n")
            .append("        Due due = new Due(\"README.md\");\n        constants(due);\n");
        for (int i = 0; i < runCount; i++) {
            program.append("        run").append(i).append("(due);\n");
        }
        program.append("        due.end();\n    }\n}\n");
        Path file = room.resolve(RUNS + ".java");
        Files.writeString(file, program);
        String classes = System.getProperty("java.class.path");
        DUE.is("compiling the page's runs", status("javac", "-cp", classes, "-d", room.toString(), file.toString()), 0);
        DUE.is("the page's runs", status("java", "-cp", classes + File.pathSeparator + room, RUNS), 0);
    }

    private static int status(String... command) throws IOException, InterruptedException {
        return new ProcessBuilder(command).inheritIO().start().waitFor();
    }

    private static void eachCallIsShown(String page) {
        for (String name : Calls.ALL) {
            DUE.holds(name + " is shown", page.contains("p." + name + "("));
        }
    }

    private static void eachTestIsNamed(String page) throws IOException {
        TreeSet<String> named = new TreeSet<>();
        Matcher row = Pattern.compile("(?m)^\\| `(\\w+Test)` \\|").matcher(page);
        while (row.find()) {
            named.add(row.group(1));
        }
        try (Stream<Path> files = Files.list(Path.of("src", "test", "java"))) {
            List<String> tests = files.map(f -> f.getFileName().toString()).filter(f -> f.endsWith("Test.java"))
                .map(f -> f.replace(".java", "")).sorted().collect(Collectors.toList());
            DUE.holds("the page names the tests " + tests + ", not " + named, tests.equals(new ArrayList<>(named)));
        }
    }

    private static void testsAreRunBy(String page, Path script) {
        DUE.holds("the page names " + script, page.contains("\n    " + script + "\n"));
        DUE.holds(script + " can be called", Files.isExecutable(script));
    }

    private static void copy(Path from, Path to) throws IOException {
        try (Stream<Path> all = Files.walk(from)) {
            for (Path path : all.collect(Collectors.toList())) {
                Files.copy(path, to.resolve(path.toString()));
            }
        }
    }

    private static void remove(Path room) throws IOException {
        try (Stream<Path> all = Files.walk(room)) {
            for (Path path : all.sorted(Comparator.reverseOrder()).collect(Collectors.toList())) {
                Files.delete(path);
            }
        }
    }
}
