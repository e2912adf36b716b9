import java.io.File;
import java.lang.reflect.Method;
import java.lang.reflect.Modifier;
import java.net.URL;
import java.net.URLClassLoader;
import java.nio.file.Files;
import java.nio.file.Path;
import java.util.List;
import java.util.TreeSet;
import java.util.regex.Matcher;
import java.util.regex.Pattern;
import java.util.stream.Stream;
import javax.tools.JavaCompiler;
import javax.tools.ToolProvider;

/** README.md and NOTES.md hold: the examples answer what they say, and what is told of the tests and the document is so. */
public final class PagesTest {
    private static final String README = "README.md";
    private static final String MAKES = "MeltPins pins = new MeltPins();";
    /** A call, and what it answers; behind a finding its name. */
    private static final Pattern EXAMPLE = Pattern.compile("(\\S.*);\\s+// (-?\\d+)(?: ([A-Z]+))?(?:: .+)?");
    private static final List<String> FINDINGS = List.of("BEYOND", "FULL", "KIND", "NONE", "STATE", "MISSING", "SIZE");
    private static final int LOW = -1000001;

    private static final TreeSet<String> called = new TreeSet<>();
    private static final TreeSet<String> found = new TreeSet<>();
    private static int asked = 0;
    private static int wrong = 0;

    public static void main(String[] args) throws Exception {
        List<String> readme = Files.readAllLines(Path.of(README));
        answer(program(readme));
        for (Method m : MeltPins.class.getDeclaredMethods()) {
            if (Modifier.isPublic(m.getModifiers())) so(called.contains(m.getName()), "an example calls " + m.getName() + "()");
        }
        for (String name : FINDINGS) so(found.contains(name), "an example answers " + name);
        findings(readme);
        tests(String.join("\n", readme));
        quotes(Files.readString(Path.of("NOTES.md")));
        System.out.println(asked + " examples asked, " + wrong + " wrong on the pages");
        if (wrong != 0) System.exit(1);
    }

    /** Asked by the examples' program. */
    public static void due(int line, long got, long want) {
        asked++;
        so(got == want, README + " line " + line + " answers " + want + ", it is " + got);
    }

    private static void so(boolean fits, String what) {
        if (fits) return;
        wrong++;
        System.out.println("not so: " + what);
    }

    /** The examples as a program: a method for each block of calls, a block that is a method as it stands. */
    private static String program(List<String> lines) {
        StringBuilder members = new StringBuilder();
        StringBuilder runs = new StringBuilder();
        int blocks = 0;
        boolean inside = false;
        boolean calls = false;
        for (int i = 0; i < lines.size(); i++) {
            String line = lines.get(i);
            if (!inside && line.equals("```java")) {
                inside = true;
                calls = lines.get(i + 1).equals(MAKES);
                if (calls) {
                    blocks++;
                    runs.append("        block").append(blocks).append("();\n");
                    members.append("    static void block").append(blocks).append("() {\n");
                }
            } else if (inside && line.equals("```")) {
                inside = false;
                if (calls) members.append("    }\n");
            } else if (inside) {
                members.append("    ").append(calls ? example(line, i + 1) : line).append('\n');
            }
        }
        so(!inside && blocks > 0, README + " has examples, and each block ends");
        return "public final class ReadmeExamples {\n    public static void run() {\n" + runs + "    }\n" + members + "}\n";
    }

    private static String example(String line, int at) {
        // What only goes on to do so many times what others show asks nothing.
        if (line.equals(MAKES) || line.matches("for \\(.*\\) pins\\.\\w+\\([^)]*\\);")) return line;
        Matcher m = EXAMPLE.matcher(line);
        if (!m.matches()) {
            so(false, README + " line " + at + " is a call with its answer: " + line);
            return "";
        }
        long want = Long.parseLong(m.group(2));
        String name = want <= LOW && want > LOW - FINDINGS.size() ? FINDINGS.get((int) (LOW - want)) : null;
        so(name == null ? m.group(3) == null : name.equals(m.group(3)), README + " line " + at + " tells a finding by its name");
        if (name != null) found.add(name);
        Matcher call = Pattern.compile("pins\\.(\\w+)\\(").matcher(m.group(1));
        if (call.lookingAt()) called.add(call.group(1));
        return "PagesTest.due(" + at + ", " + m.group(1) + ", " + want + "L);";
    }

    private static void answer(String program) throws Exception {
        Path out = Files.createTempDirectory("readme");
        try {
            Path file = Files.writeString(out.resolve("ReadmeExamples.java"), program);
            JavaCompiler javac = ToolProvider.getSystemJavaCompiler();
            int failed = javac.run(null, null, null, "-Xlint:all", "-Werror", "-proc:none", "-cp",
                System.getProperty("java.class.path"), "-d", out.toString(), file.toString());
            so(failed == 0, "the examples of " + README + " are Java");
            if (failed != 0) return;
            try (URLClassLoader loader = new URLClassLoader(new URL[] {out.toUri().toURL()}, PagesTest.class.getClassLoader())) {
                loader.loadClass("ReadmeExamples").getMethod("run").invoke(null);
            }
        } finally {
            File[] made = out.toFile().listFiles();
            if (made != null) for (File each : made) Files.delete(each.toPath());
            Files.delete(out);
        }
    }

    /** The table's rows: the number of a finding, its name, its place in status(). */
    private static void findings(List<String> readme) {
        int rows = 0;
        for (String line : readme) {
            Matcher m = Pattern.compile("\\| (-\\d+) \\| ([A-Z]+) \\| (\\d) \\| .*").matcher(line);
            if (!m.matches()) continue;
            so(rows < FINDINGS.size() && m.group(2).equals(FINDINGS.get(rows)) && Integer.parseInt(m.group(1)) == LOW - rows
                && Integer.parseInt(m.group(3)) == rows, "the table's row " + line);
            rows++;
        }
        so(rows == FINDINGS.size(), "the table of findings has " + FINDINGS.size() + " rows");
    }

    private static void tests(String readme) throws Exception {
        try (Stream<Path> files = Files.list(Path.of("src/test/java"))) {
            files.map(file -> file.getFileName().toString()).sorted()
                .forEach(name -> so(readme.contains("`" + name + "`"), README + " tells what " + name + " is for"));
        }
        so(readme.contains("`sh .ci/run`"), README + " tells how the tests are run");
    }

    /** What NOTES.md quotes, "so", stands in the document. */
    private static void quotes(String notes) throws Exception {
        String document = Files.readString(Path.of("../shared/DOC.md")).replaceAll("\\s+", " ");
        Matcher m = Pattern.compile("\"([^\"]*)\"").matcher(notes);
        int quoted = 0;
        while (m.find()) {
            String words = m.group(1).replaceAll("\\s+", " ");
            so(document.contains(words), "the document says: " + words);
            quoted++;
        }
        so(quoted > 0, "NOTES.md quotes the document");
    }
}
