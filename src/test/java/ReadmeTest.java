import java.io.IOException;
import java.lang.reflect.InvocationTargetException;
import java.lang.reflect.Method;
import java.lang.reflect.Modifier;
import java.net.URL;
import java.net.URLClassLoader;
import java.nio.file.Files;
import java.nio.file.Path;
import java.util.ArrayList;
import java.util.Comparator;
import java.util.List;
import java.util.Map;
import java.util.TreeMap;
import java.util.TreeSet;
import java.util.regex.Matcher;
import java.util.regex.Pattern;
import java.util.spi.ToolProvider;
import java.util.stream.Stream;

/** README.md agrees with the class (its examples are compiled and run) and with the document (its tables are). */
public final class ReadmeTest {
    private static final Path README = Path.of("README.md");
    private static final Path DOCUMENT = Path.of("../shared/DOC.md");
    private static int wrong = 0;

    private static void due(boolean holds, String what) {
        if (!holds) {
            wrong++;
            System.out.println("README.md: " + what);
        }
    }

    private static String first(String text, String pattern) {
        Matcher m = Pattern.compile(pattern, Pattern.DOTALL).matcher(text);
        return m.find() ? m.group(1) : "";
    }

    private static List<String> all(String text, String pattern) {
        List<String> found = new ArrayList<>();
        Matcher m = Pattern.compile(pattern, Pattern.DOTALL).matcher(text);
        while (m.find()) found.add(m.group(1));
        return found;
    }

    private static TreeSet<String> face() {
        TreeSet<String> names = new TreeSet<>();
        for (Method m : ChainVotes.class.getDeclaredMethods()) if (Modifier.isPublic(m.getModifiers())) names.add(m.getName());
        return names;
    }

    // ---------------------------------------------------------------- what the document says

    /** For each call what its promise says it answers where something can't be. */
    private static Map<String, String> refusals(String document) {
        Map<String, String> answers = new TreeMap<>();
        for (String promise : document.split("\n## Promise ")) {
            String name = first(promise, "^\\d+: (\\w+)\n");
            if (name.isEmpty()) continue;
            String words = promise.split("\n## ")[0];
            if (words.contains("NONE - 99999")) answers.put(name, "NONE - 99999");
            else if (words.contains("NONE - 1 ")) answers.put(name, "NONE - 1");
            else if (words.contains("NONE")) answers.put(name, "NONE");
            else if (words.contains("; false")) answers.put(name, "false");
            else answers.put(name, "always goes");
        }
        return answers;
    }

    private static void tableOfRefusals(String readme, String document) {
        String table = first(readme, "\\| Answer \\| Calls \\|\n\\|---\\|---\\|\n(.*?)\n\n");
        Map<String, String> said = new TreeMap<>();
        for (String row : table.split("\n")) {
            String[] cells = row.split("\\|");
            if (cells.length < 3) continue;
            String answer = cells[1].replaceAll("`|\\(.*\\)", "").trim();
            for (String name : all(cells[2], "`(\\w+)`")) due(said.put(name, answer) == null, name + " stands twice among the answers");
            String number = first(cells[1], "\\((-\\d+)\\)");
            due(number.isEmpty() || Integer.parseInt(number) == valueOf(answer), answer + " is not " + number);
        }
        Map<String, String> want = refusals(document);
        due(said.keySet().equals(face()), "the answers are told of " + said.keySet() + ", due are " + face());
        due(said.equals(want), "the answers are " + said + ", due are " + want);
    }

    private static int valueOf(String answer) {
        switch (answer) {
            case "NONE": return ChainVotes.NONE;
            case "NONE - 1": return ChainVotes.NONE - 1;
            case "NONE - 99999": return ChainVotes.NONE - 99999;
            default: return 0;
        }
    }

    private static void listOfCalls(String readme) {
        String list = first(readme, "### Which calls there are\n(.*?)\n\n(?!-)");
        TreeSet<String> named = new TreeSet<>();
        for (String line : list.split("\n- ")) {
            for (String name : all(line.replaceAll("(?s)keeps all but.*?,", ""), "`(\\w+)(?:\\(true\\))?`")) {
                due(named.add(name), name + " stands twice among the calls");
            }
        }
        due(named.equals(face()), "the calls are " + named + ", due are " + face());
    }

    private static void linesOfPlans(String readme, String document) {
        String grammar = first(document, "PLANS: a text \\{(.*?)\\}");
        TreeSet<String> want = new TreeSet<>();
        for (String form : grammar.replace(";", "").split("\\|")) want.add(form.trim() + ";");
        TreeSet<String> said = new TreeSet<>(all(readme, "\n\\| `([a-z]+ [^`]*;)` \\|"));
        due(want.size() == 10 && said.equals(want), "the lines of plans are " + said + ", due are " + want);
        String bounds = first(readme, "The bounds: (.*?)\n");
        for (String letter : List.of("N", "P", "K", "M", "B", "V", "R")) {
            String due = first(document.split("PLANS: a text")[1], ", " + letter + " (\\d+ \\.\\. \\d+)");
            String is = first(", " + bounds, ", " + letter + " (\\d+ \\.\\. \\d+)");
            due(!due.isEmpty() && due.equals(is), "the bounds of " + letter + " are " + is + ", due are " + due);
        }
    }

    private static void limits(String readme, String document) {
        due(document.contains("at most 512 calls") && readme.contains("512 calls"), "for how many calls an object is meant");
        due(document.contains("more than 400") && readme.contains("up to 400"), "how many bytes the tape takes");
        due(document.contains("up to 24 lines") && readme.contains("up to 24 lines"), "how many lines a plan has");
        due(readme.contains("\n    .ci/run\n"), "how to run the tests");
    }

    /** Each test is named, and no other. */
    private static void namesOfTests(String readme) throws IOException {
        TreeSet<String> there = new TreeSet<>();
        try (Stream<Path> files = Files.list(Path.of("src/test/java"))) {
            files.forEach(f -> there.add(f.getFileName().toString().replace(".java", "")));
        }
        TreeSet<String> named = new TreeSet<>();
        for (String line : all(readme.split("## How to run its tests")[1], "\n- ([^:]*):")) named.addAll(all(line, "`(\\w+)`"));
        due(named.equals(there), "the tests are " + named + ", due are " + there);
    }

    // ---------------------------------------------------------------- what the class answers

    /** A line that ends with an answer is followed by a look whether it is the one. */
    private static String checked(String line) {
        Matcher m = Pattern.compile("^\\w+ (\\w+) = .*; *// (-?\\d+|true|false)\\b.*$").matcher(line);
        if (!m.matches()) return line + "\n";
        String call = line.replace("\\", "\\\\").replace("\"", "\\\"");
        return line + "\nif (" + m.group(1) + " != " + m.group(2) + ") { Examples.wrongAnswers++; System.out.println(\"README.md: " + call
            + " answered \" + " + m.group(1) + "); }\nExamples.lookedAt++;\n";
    }

    private static void examples(String readme) throws IOException, ReflectiveOperationException {
        StringBuilder members = new StringBuilder();
        StringBuilder statements = new StringBuilder();
        int answers = 0;
        for (String block : all(readme, "```java\n(.*?)```")) {
            if (block.startsWith("static ")) {
                members.append(block);
                continue;
            }
            for (String line : block.split("\n")) {
                due(line.startsWith("ChainVotes ") || line.contains("; ") && line.contains("// "), "an example without its answer: " + line);
                statements.append(checked(line));
                answers += line.contains("// ") ? 1 : 0;
            }
        }
        due(answers >= 20, "there are but " + answers + " examples");
        String source = "public final class Examples {\npublic static int wrongAnswers, lookedAt;\n" + members
            + "public static void play() {\n" + statements + "}\n}\n";
        play(source, answers);
    }

    private static void play(String source, int answers) throws IOException, ReflectiveOperationException {
        Path room = Files.createTempDirectory("readme");
        try {
            Path file = Files.writeString(room.resolve("Examples.java"), source);
            int exit = ToolProvider.findFirst("javac").orElseThrow().run(System.out, System.out, "--release", "17",
                "-cp", System.getProperty("java.class.path"), "-d", room.toString(), file.toString());
            due(exit == 0, "the examples do not compile");
            if (exit != 0) return;
            try (URLClassLoader loader = new URLClassLoader(new URL[] {room.toUri().toURL()})) {
                Class<?> examples = loader.loadClass("Examples");
                examples.getMethod("play").invoke(null);
                wrong += examples.getField("wrongAnswers").getInt(null);
                due(examples.getField("lookedAt").getInt(null) == answers, "not each example's answer was looked at");
            } catch (InvocationTargetException e) {
                due(false, "the examples were thrown out of by " + e.getCause());
            }
        } finally {
            try (Stream<Path> left = Files.walk(room)) {
                left.sorted(Comparator.reverseOrder()).forEach(p -> p.toFile().delete());
            }
        }
    }

    /** What the page says of calls in words: what can't be changes nothing, NONE as a plain answer. */
    private static void words() {
        ChainVotes x = new ChainVotes();
        due(x.block(0, 1) == -1 && x.block(0, 4) == -1, "NONE for the parent and the maker of block 0");
        due(x.fault(0) == 0 && x.fault(1) == -1, "NONE for the place of no fault");
        for (int i = 0; i < 4; i++) x.mode(i, 1);
        due(x.soon() == -1 && x.without(0) == -1, "NONE for what twenty rounds do not bring");
        due(x.best(1) == -1 && x.best(2) == -1 && x.best(3) == -1, "NONE for the best of no node");
        x.state(-1);
        due(x.look(14) == -1 && x.state(0) == -1, "-1 as a state");
        ChainVotes y = new ChainVotes();
        y.propose(1, 0);
        due(y.message(0, 4) == -1, "NONE for the high of a block");
        y.timeout(0);
        due(y.message(4, 4) == 0, "the high of a timeout");
        y.feed(0x78202020, 0x20202020, 0x20202020, 0x20202020, 0x20202020);
        due(y.plan() == -1 && y.end(0) && !y.end(1), "a plan with a fault empties the tape");
    }

    public static void main(String[] args) throws IOException, ReflectiveOperationException {
        String readme = Files.readString(README);
        String document = Files.readString(DOCUMENT);
        tableOfRefusals(readme, document);
        listOfCalls(readme);
        linesOfPlans(readme, document);
        limits(readme, document);
        namesOfTests(readme);
        examples(readme);
        words();
        System.out.println(wrong == 0 ? "README.md agrees" : wrong + " places of README.md do not agree");
        if (wrong != 0) System.exit(1);
    }
}
