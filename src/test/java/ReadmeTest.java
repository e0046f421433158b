import java.io.IOException;
import java.net.URL;
import java.net.URLClassLoader;
import java.nio.file.Files;
import java.nio.file.Path;
import java.util.ArrayList;
import java.util.Comparator;
import java.util.HashSet;
import java.util.List;
import java.util.Set;
import java.util.TreeSet;
import java.util.regex.Matcher;
import java.util.regex.Pattern;
import java.util.stream.Stream;
import javax.tools.ToolProvider;

/**
 * What README.md shows is so: its program is compiled and run by its own commands, each call of its examples answers
 * as the comment behind it says, and its tables name what there is.
 */
public final class ReadmeTest {
    private static final String PAGE = "README.md";
    private static final Pattern EXAMPLE =
        Pattern.compile("\\s*(?:int (\\w+) = )?(bazaar\\.(\\w+)\\(.*\\));\\s*// (-?\\d+|Long\\.MIN_VALUE)(?:\\D.*)?");
    private static final Pattern CALL = Pattern.compile("\\| (\\d+) \\| `(\\w+)\\((.*?)\\)` \\| .+ \\|");
    private static final Due due = new Due();

    /** A block of the page between fences: the lines begin behind the first fence. */
    private record Block(String sort, int at, List<String> lines) {
        boolean isProgram() {
            return sort.equals("java") && String.join("\n", lines).contains("void main(");
        }

        String text() {
            return String.join("\n", lines) + "\n";
        }
    }

    /** A call of the page, and what it is said to answer. */
    private record Example(int line, String name, String call, long want) { }

    public static void main(String[] args) throws Exception {
        List<String> page = Files.readAllLines(Path.of(PAGE));
        List<Block> blocks = blocksOf(page);
        Path room = Files.createTempDirectory("readme");
        try {
            theProgramRuns(blocks, room);
            theExamplesAnswer(blocks, room);
        } finally {
            remove(room);
        }
        theRefusalsAreTheConstants(page);
        theTablesAreWhole(page);
        theTestsAreRunAsTold(page);
        due.end();
    }

    private static List<Block> blocksOf(List<String> page) {
        List<Block> blocks = new ArrayList<>();
        Block open = null;
        for (int i = 0; i < page.size(); i++) {
            boolean isFence = page.get(i).startsWith("```");
            if (isFence && open == null) {
                open = new Block(page.get(i).substring(3), i + 2, new ArrayList<>());
            } else if (isFence) {
                blocks.add(open);
                open = null;
            } else if (open != null) {
                open.lines().add(page.get(i));
            }
        }
        due.page(PAGE + ", its blocks");
        due.holds("each block has its end", open == null);
        return blocks;
    }

    private static void theProgramRuns(List<Block> blocks, Path room) throws Exception {
        due.page(PAGE + ", A first program");
        List<Block> programs = blocks.stream().filter(Block::isProgram).toList();
        List<Block> commands = blocks.stream().filter(b -> b.sort().equals("sh")).toList();
        List<Block> printed = blocks.stream().filter(b -> b.sort().equals("text")).toList();
        due.is("programs", programs.size(), 1);
        due.is("blocks of commands", commands.size(), 1);
        due.is("blocks of what is printed", printed.size(), 1);
        Path main = Path.of("src/main/java/ScalesByHate.java");
        Files.createDirectories(room.resolve(main).getParent());
        Files.copy(main, room.resolve(main));
        Matcher name = Pattern.compile("class (\\w+)").matcher(programs.get(0).text());
        due.holds("the program has a name", name.find());
        Files.writeString(room.resolve(name.group(1) + ".java"), programs.get(0).text());
        StringBuilder said = new StringBuilder();
        for (String command : commands.get(0).lines()) {
            Process process = new ProcessBuilder("sh", "-c", command).directory(room.toFile())
                .redirectError(ProcessBuilder.Redirect.INHERIT).start();
            said.append(new String(process.getInputStream().readAllBytes(), "UTF-8"));
            due.is(command, process.waitFor(), 0);
        }
        due.same("what the program prints", said.toString().replace("\r", ""), printed.get(0).text());
    }

    /** Writes a class with a method for each block of examples, which gives a line and its answer for each call. */
    private static void theExamplesAnswer(List<Block> blocks, Path room) throws Exception {
        List<Example> examples = new ArrayList<>();
        StringBuilder methods = new StringBuilder();
        StringBuilder body = new StringBuilder();
        int block = 0;
        for (Block b : blocks) {
            if (b.sort().equals("java") && !b.isProgram()) {
                body.append("        block").append(block).append("(said);\n");
                methods.append("    private static void block").append(block).append("(List<long[]> said) {\n");
                for (int i = 0; i < b.lines().size(); i++) {
                    methods.append(asCode(b.lines().get(i), b.at() + i, examples)).append('\n');
                }
                methods.append("    }\n");
                block++;
            }
        }
        String source = "import java.util.*;\n\npublic final class ReadmeExamples {\n"
            + "    public static List<long[]> said() {\n        List<long[]> said = new ArrayList<>();\n" + body
            + "        return said;\n    }\n\n" + methods + "}\n";
        List<long[]> said = run(source, room);
        due.page(PAGE + ", its examples");
        due.is("examples that answered", said.size(), examples.size());
        Set<String> shown = new TreeSet<>();
        Set<Long> answers = new HashSet<>();
        for (int i = 0; i < examples.size() && i < said.size(); i++) {
            Example e = examples.get(i);
            due.promise(Face.promiseOf(e.name()), PAGE + " line " + e.line());
            due.is("the line of an example", said.get(i)[0], e.line());
            due.is(e.call(), said.get(i)[1], e.want());
            shown.add(e.name());
            answers.add(e.want());
        }
        due.page(PAGE + ", what has an example");
        for (String call : Face.CALLS) {
            due.holds("an example of " + call, shown.contains(Face.nameOf(call)));
        }
        for (long refusal : new long[]{-1, -2, -3, -5, -11, -12, -13, -14, -100, Long.MIN_VALUE}) {
            due.holds("an example of the answer " + refusal, answers.contains(refusal));
        }
    }

    /** A line as it stands, but what a call with a number behind it answers is noted. */
    private static String asCode(String line, int at, List<Example> examples) {
        Matcher m = EXAMPLE.matcher(line);
        if (!m.matches()) {
            due.page(PAGE + " line " + at);
            due.holds("an answer that is not read: " + line, !line.matches(".*;\\s*//.*"));
            return line;
        }
        boolean isLeast = m.group(4).startsWith("Long");
        examples.add(new Example(at, m.group(3), m.group(2), isLeast ? Long.MIN_VALUE : Long.parseLong(m.group(4))));
        String note = "said.add(new long[]{" + at + "L, ";
        return m.group(1) == null ? note + m.group(2) + "});"
            : "int " + m.group(1) + " = " + m.group(2) + "; " + note + m.group(1) + "});";
    }

    private static List<long[]> run(String source, Path room) throws Exception {
        Path file = room.resolve("ReadmeExamples.java");
        Path out = Files.createDirectories(room.resolve("examples"));
        Files.writeString(file, source);
        due.page(PAGE + ", its examples");
        int failed = ToolProvider.getSystemJavaCompiler().run(null, null, null, "-d", out.toString(), "-cp",
            System.getProperty("java.class.path"), file.toString());
        due.is("compiling the examples", failed, 0);
        List<long[]> said = new ArrayList<>();
        if (failed == 0) {
            try (URLClassLoader loader = new URLClassLoader(new URL[]{out.toUri().toURL()})) {
                List<?> all = (List<?>) loader.loadClass("ReadmeExamples").getMethod("said").invoke(null);
                for (Object one : all) {
                    said.add((long[]) one);
                }
            }
        }
        return said;
    }

    private static void theRefusalsAreTheConstants(List<String> page) throws ReflectiveOperationException {
        due.page(PAGE + ", What the answers mean");
        Set<String> named = new TreeSet<>();
        Matcher m = Pattern.compile("`([A-Z]+)`,? \\(?(-\\d+)").matcher(String.join("\n", page));
        while (m.find()) {
            named.add(m.group(1));
            due.is(m.group(1), ScalesByHate.class.getField(m.group(1)).getInt(null), Long.parseLong(m.group(2)));
        }
        due.same("the constants", named.toString(), "[BAD, FULL, NOT, STATE, VOID]");
    }

    private static void theTablesAreWhole(List<String> page) throws IOException {
        due.page(PAGE + ", All calls");
        List<String> calls = new ArrayList<>();
        for (String line : page) {
            Matcher m = CALL.matcher(line);
            if (m.matches()) {
                String types = m.group(3).replaceAll("(int|long) \\w+(, )?", "$1,").replaceAll(",$", "");
                String gives = m.group(2).equals("element") ? "long" : "int";
                calls.add(m.group(2) + "(" + types + "):" + gives);
                due.is("the promise of " + m.group(2), Long.parseLong(m.group(1)), Face.promiseOf(m.group(2)));
            }
        }
        due.same("the calls", calls.toString(), Face.CALLS.toString());
        due.page(PAGE + ", its table of tests");
        Set<String> tests = new TreeSet<>();
        try (Stream<Path> files = Files.list(Path.of("src/test/java"))) {
            files.map(f -> f.getFileName().toString()).filter(f -> f.endsWith("Test.java"))
                .forEach(f -> tests.add(f.replace(".java", "")));
        }
        due.same("the tests", namesIn(page, "| test |").toString(), tests.toString());
        due.page(PAGE + ", its table of classes");
        Set<String> classes = new TreeSet<>();
        for (Class<?> c : ScalesByHate.class.getDeclaredClasses()) {
            classes.add(c.getSimpleName());
        }
        due.same("the classes", namesIn(page, "| class |").toString(), classes.toString());
    }

    /** What stands between ticks in the first column of a table. */
    private static Set<String> namesIn(List<String> page, String head) {
        Set<String> names = new TreeSet<>();
        boolean isInside = false;
        for (String line : page) {
            isInside = line.startsWith(head) || isInside && line.startsWith("|");
            if (isInside) {
                Matcher m = Pattern.compile("`(\\w+)`").matcher(line.substring(0, line.indexOf('|', 1)));
                while (m.find()) {
                    names.add(m.group(1));
                }
            }
        }
        return names;
    }

    private static void theTestsAreRunAsTold(List<String> page) {
        due.page(PAGE + ", How its tests are run");
        due.holds("one command runs all tests", page.stream().filter(l -> l.equals("    bash .ci/run")).count() == 1);
        due.holds("it is there", Files.isRegularFile(Path.of(".ci/run")));
    }

    private static void remove(Path room) throws IOException {
        try (Stream<Path> files = Files.walk(room)) {
            for (Path file : files.sorted(Comparator.reverseOrder()).toList()) {
                Files.delete(file);
            }
        }
    }
}
