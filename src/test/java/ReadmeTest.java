import java.io.IOException;
import java.net.URL;
import java.net.URLClassLoader;
import java.nio.file.Files;
import java.nio.file.Path;
import java.util.ArrayList;
import java.util.List;
import java.util.Set;
import java.util.TreeSet;
import java.util.regex.Matcher;
import java.util.regex.Pattern;
import java.util.stream.Stream;
import javax.tools.ToolProvider;

/** What README.md says is so: its example, the calls, the classes, the statements and faults, the tests, the paths. */
public final class ReadmeTest {
    private static final Pattern ANSWERED = Pattern.compile("(bench\\.\\w+\\([^;]*\\));\\s*// (NONE|true|false|-?\\d+):? ?.*");

    public static void main(String[] args) throws Exception {
        String readme = Files.readString(Path.of("README.md"));
        example(readme);
        calls(readme);
        classes(readme);
        statements(readme);
        faults(readme);
        refusals();
        tests(readme);
        commands(readme);
        Check.finish("ReadmeTest");
    }

    /** What stands between two headings, or behind the last one. */
    private static String section(String readme, String heading) {
        int from = readme.indexOf("\n" + heading + "\n");
        Check.due("a section " + heading, true, from >= 0);
        int to = readme.indexOf("\n#", from + 2);
        return from < 0 ? "" : readme.substring(from, to < 0 ? readme.length() : to);
    }

    private static List<String> blocks(String readme, String kind) {
        List<String> all = new ArrayList<>();
        Matcher block = Pattern.compile("(?s)```" + kind + "\n(.*?)```").matcher(readme);
        while (block.find()) {
            all.add(block.group(1));
        }
        return all;
    }

    /** All that is written as code in the first column of a section's table. */
    private static Set<String> firstColumn(String section) {
        Set<String> all = new TreeSet<>();
        for (String line : section.split("\n")) {
            Matcher code = Pattern.compile("`([^`]+)`").matcher(line.startsWith("| `") ? line.split("\\|")[1] : "");
            while (code.find()) {
                all.add(code.group(1));
            }
        }
        return all;
    }

    // ---- the example, as it stands there

    private static void example(String readme) throws Exception {
        List<String> code = blocks(readme, "java");
        Check.due("a helper and an example", 2, code.size());
        if (code.size() != 2) {
            return;
        }
        List<String> calls = new ArrayList<>();
        List<Long> wanted = new ArrayList<>();
        StringBuilder body = new StringBuilder();
        for (String line : code.get(1).split("\n")) {
            Matcher answered = ANSWERED.matcher(line);
            if (answered.matches()) {
                body.append("add(").append(answered.group(1)).append(");\n");
                calls.add(answered.group(1));
                wanted.add(wantedBy(answered.group(2)));
            } else {
                Check.due("each call of the example has its answer: " + line, false, line.startsWith("bench."));
                body.append(line).append("\n");
            }
        }
        Check.due("answers in the example", true, wanted.size() > 20);
        long[] got = answersOf(code.get(0), body.toString());
        Check.due("answers of the example", wanted.size(), got.length);
        for (int k = 0; k < Math.min(got.length, wanted.size()); k++) {
            Check.due("README: " + calls.get(k), wanted.get(k), got[k]);
        }
    }

    private static long wantedBy(String word) {
        switch (word) {
            case "NONE": return KilnBench.NONE;
            case "true": return 1;
            case "false": return 0;
            default: return Long.parseLong(word);
        }
    }

    /** Compiles the helper and the lines of the example, and lets them run. */
    private static long[] answersOf(String helper, String body) throws Exception {
        String source = "public final class ReadmeExample {\n"
            + "private static final java.util.List<Long> all = new java.util.ArrayList<>();\n"
            + "private static void add(long answer) { all.add(answer); }\n"
            + "private static void add(boolean answer) { all.add(answer ? 1L : 0L); }\n"
            + helper
            + "public static long[] answers() {\n" + body
            + "return all.stream().mapToLong(Long::longValue).toArray();\n}\n}\n";
        Path dir = Files.createTempDirectory("readme");
        Path file = dir.resolve("ReadmeExample.java");
        try {
            Files.writeString(file, source);
            int wrong = ToolProvider.getSystemJavaCompiler().run(null, null, null,
                "-cp", System.getProperty("java.class.path"), "-d", dir.toString(), file.toString());
            Check.due("the example compiles", 0, wrong);
            if (wrong != 0) {
                return new long[0];
            }
            try (URLClassLoader loader = new URLClassLoader(new URL[] {dir.toUri().toURL()})) {
                return (long[]) loader.loadClass("ReadmeExample").getMethod("answers").invoke(null);
            }
        } finally {
            Files.deleteIfExists(file);
            Files.deleteIfExists(dir.resolve("ReadmeExample.class"));
            Files.deleteIfExists(dir);
        }
    }

    // ---- the tables

    private static void calls(String readme) {
        String table = section(readme, "### The calls");
        Set<String> named = new TreeSet<>();
        Matcher code = Pattern.compile("`(\\w+)`").matcher(table);
        while (code.find()) {
            Check.due("named once: " + code.group(1), true, named.add(code.group(1)));
        }
        Set<String> there = new TreeSet<>();
        for (var method : KilnBench.class.getDeclaredMethods()) {
            if (java.lang.reflect.Modifier.isPublic(method.getModifiers())) {
                there.add(method.getName());
            }
        }
        Check.due("calls " + named + " are those of the class " + there, true, named.equals(there));
    }

    private static void classes(String readme) {
        Set<String> there = new TreeSet<>();
        for (Class<?> inside : KilnBench.class.getDeclaredClasses()) {
            there.add(inside.getSimpleName());
        }
        Set<String> named = firstColumn(section(readme, "## How it is built"));
        Check.due("classes " + named + " are those of the class " + there, true, named.equals(there));
    }

    /** Each statement with the words that the page gives it, and with its bounds. */
    private static void statements(String readme) {
        Set<String> forms = firstColumn(section(readme, "### The text"));
        Check.due("statements " + forms, 9, forms.size());
        for (String form : forms) {
            String text = form.replace("NAME", "a").replace("SUM", "1").replace("TEST", "all").replace("N", "1") + ";";
            Check.due("a statement: " + text, 1, Check.town(new KilnBench(), text));
        }
        for (String line : section(readme, "### The text").split("\n")) {
            Matcher words = Pattern.compile("\\| `(\\w+) (SUM|TEST)` \\|.*`(heat week [a-z ]+)`.*").matcher(line);
            if (words.matches()) {
                factsMayStand(words.group(1), words.group(2).equals("SUM"), words.group(3).split(" "));
            }
        }
        String facts = "child a clay 99 grit 9;kiln b room 6;temper min(1,2)+max(1,2)-if(1<2,3,4)*(5)/6%7;cracks not all or [1>2] and 1=1;";
        Check.due("all signs of the page", 4, Check.town(new KilnBench(), facts));
        Check.due("80 statements", 80, Check.town(new KilnBench(), "fuel 1;".repeat(80)));
        Check.due("81 statements", -1, Check.town(new KilnBench(), "fuel 1;".repeat(81)));
    }

    private static void factsMayStand(String kind, boolean sum, String[] words) {
        for (String word : words) {
            String text = kind + " " + word + (sum ? ";" : "=1;");
            Check.due("a statement: " + text, 1, Check.town(new KilnBench(), text));
        }
    }

    private static void faults(String readme) {
        Check.due("the faults are told", true, section(readme, "### The text").contains(
            "1 a wrong byte, 2 a name twice, 4 a number that can't be, 5 too many open at once, 6 one too many."));
        String[] texts = {"x", "kiln a room 1;kiln a", "", "fuel 1000;", "burns ((((((((1", "burns 1;burns 1;"};
        for (int k = 0; k < texts.length; k++) {
            KilnBench x = new KilnBench();
            Check.town(x, texts[k]);
            Check.due("fault of " + texts[k], texts[k].isEmpty() ? 0 : k + 1, x.fault(0));
        }
    }

    /** A refused call leaves all as it was, but for the tape that it read and the fault that it tells. */
    private static void refusals() {
        KilnBench x = Check.made("child a clay 1 grit 1;kiln k room 2;fuel 7;");
        x.set(0, 0, 1);
        int[] before = Check.image(x);
        Check.due("a town with a fault", -1, Check.town(x, "fuel"));
        Check.due("rows that are none", -1, Check.see(x, 9, 9, 9));
        Check.due("an image that is none", 0, Check.on(x, 1, 2, 3));
        Check.due("the tape is gone", false, x.end(1));
        Check.due("a week too many", -1, x.weeks(41));
        Check.due("a place that is not", false, x.set(0, 0, 2));
        Check.due("a seed that is none", false, x.seed(-1));
        Check.due("no such child, not refused", -1, x.rings(1, 0, 0));
        int[] after = Check.image(x);
        Check.due("all stays", true, java.util.Arrays.equals(before, after));
        Check.due("acts stay", 1, x.has(10));
        Check.due("the fault", 1, x.fault(0));
        int[] refused = {1, 1, 1, 1, 0, 3};
        for (int k = 0; k < refused.length; k++) {
            Check.due("status(" + k + ")", refused[k], x.status(k));
        }
    }

    // ---- the tests and how to run them

    private static void tests(String readme) throws IOException {
        Set<String> there = new TreeSet<>();
        try (Stream<Path> files = Files.list(Path.of("src/test/java"))) {
            files.map(file -> file.getFileName().toString()).filter(name -> name.endsWith("Test.java"))
                .forEach(name -> there.add(name.replace(".java", "")));
        }
        Set<String> named = firstColumn(section(readme, "## How to run the tests"));
        Check.due("tests " + named + " are those there are " + there, true, named.equals(there));
    }

    private static void commands(String readme) {
        for (String block : blocks(readme, "sh")) {
            Matcher path = Pattern.compile("(?:src|\\.ci)/[\\w/.]+").matcher(block);
            while (path.find()) {
                Check.due("there is " + path.group(), true, Files.exists(Path.of(path.group())));
            }
        }
        Check.due("blocks with commands", 2, blocks(readme, "sh").size());
        Check.due(".ci/run can be run", true, Files.isExecutable(Path.of(".ci/run")));
        for (String path : List.of("src/main/java/KilnBench.java", "../shared/DOC.md", "../shared/LANGUAGE.md", "../shared/tests", "src/test/java")) {
            Check.due("the page names " + path, true, readme.contains(path));
            Check.due("there is " + path, true, Files.exists(Path.of(path)));
        }
    }
}
