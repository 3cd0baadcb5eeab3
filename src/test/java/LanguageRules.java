import java.io.PrintWriter;
import java.io.StringWriter;
import java.lang.reflect.Executable;
import java.lang.reflect.Field;
import java.lang.reflect.Method;
import java.lang.reflect.Modifier;
import java.nio.file.Files;
import java.nio.file.Path;
import java.util.ArrayList;
import java.util.HashMap;
import java.util.List;
import java.util.Map;
import java.util.Set;
import java.util.TreeSet;
import java.util.regex.Matcher;
import java.util.regex.Pattern;
import java.util.spi.ToolProvider;

/** What of ../shared/LANGUAGE.md can be seen from the source, the classes and their bytecode. */
public final class LanguageRules {
    private static final Path SOURCE = Path.of("src/main/java/ChainVotes.java");
    private static final Path DOCUMENT = Path.of("../shared/DOC.md");
    private static int wrong = 0;

    private static void rule(int number, boolean kept, String what) {
        if (!kept) {
            wrong++;
            System.out.println("rule " + number + ": " + what);
        }
    }

    private static final String FACE = """
        public ChainVotes();
        public boolean nodes(int n);
        public boolean mode(int node, int m);
        public int propose(int node, int payload);
        public boolean timeout(int node);
        public int lie(int node, int what, int a, int v, int payload);
        public int deliver(int k);
        public int drop(int k);
        public int lose(int node);
        public int leaders(int rule);
        public boolean cut(int a, int b, boolean is);
        public int reach(int node);
        public int since(int node, int what);
        public int state(int v);
        public boolean ask(int node, int other);
        public int storm(int n, int d);
        public boolean turn(int m);
        public int calm(int r);
        public int feed(int a, int b, int c, int d, int e);
        public boolean end(int n);
        public int plan();
        public int fault(int what);
        public int run(int k);
        public int node(int node, int what);
        public int log(int node, int i);
        public int block(int b, int what);
        public int marks(int node, int b);
        public int timeouts(int node, int v);
        public int message(int i, int what);
        public int evidence(int i, int what);
        public int event(int i, int what);
        public int ledger(int of, boolean block, int a);
        public int without(int node);
        public int audit(int what);
        public int pending(int node, int kind);
        public int path(int b, int i);
        public int markers(int node, int b);
        public int best(int what);
        public int soon();
        public int two(int a, int b, int what);
        public int would(int node, int b);
        public int chain(int b, int what);
        public boolean image(boolean taken);
        public int look(int what);
        """;

    private static String plain(Executable e, String type) {
        StringBuilder s = new StringBuilder(type + e.getName() + "(");
        for (Class<?> c : e.getParameterTypes()) s.append(c.getSimpleName()).append(" ");
        return s.toString().trim();
    }

    private static void face() {
        Set<String> want = new TreeSet<>();
        for (String line : FACE.trim().split("\n")) {
            want.add(line.trim().replace("public ", "").replaceAll("(int|boolean) \\w+[,)]\\s*", "$1 ").replaceAll("[);]", "").trim());
        }
        Set<String> got = new TreeSet<>();
        got.add(plain(ChainVotes.class.getDeclaredConstructors()[0], ""));
        rule(1, ChainVotes.class.getDeclaredConstructors().length == 1, "more than one constructor");
        Set<String> publicNames = new TreeSet<>();
        for (Method m : ChainVotes.class.getDeclaredMethods()) {
            if (Modifier.isPrivate(m.getModifiers())) continue;
            rule(1, Modifier.isPublic(m.getModifiers()), "visible method " + m);
            got.add(plain(m, m.getReturnType().getSimpleName() + " "));
            publicNames.add(m.getName());
        }
        rule(1, got.equals(want), "the face is " + got + ", due is " + want);
        for (Class<?> c : classes()) {
            for (Method m : c.getDeclaredMethods()) {
                boolean ofFace = c == ChainVotes.class && Modifier.isPublic(m.getModifiers());
                rule(1, ofFace || !publicNames.contains(m.getName()), "a method of its own bears the face's name: " + m);
            }
        }
        for (Field f : ChainVotes.class.getDeclaredFields()) {
            rule(1, Modifier.isPrivate(f.getModifiers()) || f.getName().equals("NONE"), "visible field " + f);
        }
        rule(1, Modifier.isFinal(ChainVotes.class.getModifiers()), "the class is not final");
    }

    /** The face above is the document's, line by line. */
    private static void documentsFace() throws java.io.IOException {
        Matcher m = Pattern.compile("public final class ChainVotes \\{\\n(.*?)\\}", Pattern.DOTALL).matcher(Files.readString(DOCUMENT));
        String told = m.find() ? m.group(1).replaceAll("(?m)^ +", "") : "";
        rule(1, told.equals("public static final int NONE = -1;\n" + FACE), "the document's face is " + told);
    }

    private static List<Class<?>> classes() {
        List<Class<?>> all = new ArrayList<>(List.of(ChainVotes.class));
        for (int i = 0; i < all.size(); i++) all.addAll(List.of(all.get(i).getDeclaredClasses()));
        return all;
    }

    private static void shapes() {
        rule(11, classes().size() <= 12, "too many classes");
        for (Class<?> c : classes()) {
            if (c != ChainVotes.class) {
                rule(2, Modifier.isStatic(c.getModifiers()), c + " is not static");
                rule(1, !Modifier.isPublic(c.getModifiers()) && !Modifier.isProtected(c.getModifiers()), c + " is visible");
            }
            int own = 0;
            for (Field f : c.getDeclaredFields()) {
                if (!Modifier.isStatic(f.getModifiers())) {
                    own++;
                    continue;
                }
                rule(5, Modifier.isFinal(f.getModifiers()), "static field that is not final: " + f);
                rule(5, Set.of("int", "long", "boolean", "char", "String").contains(f.getType().getSimpleName()), "static field's type: " + f);
            }
            rule(11, own <= 20, c + " has " + own + " fields");
            for (Method m : c.getDeclaredMethods()) rule(11, m.getParameterCount() <= 7, "too many parameters: " + m);
        }
    }

    private static final Set<String> LIBRARY = Set.of("java/lang/Object.\"<init>\"", "java/lang/String.length", "java/lang/String.charAt",
        "java/lang/Integer.bitCount", "java/lang/Math.max", "java/lang/Math.min", "java/lang/System.arraycopy", "java/util/Arrays.fill");

    private static String disassembled() {
        List<String> args = new ArrayList<>(List.of("-p", "-c", "-cp", System.getProperty("java.class.path")));
        for (Class<?> c : classes()) args.add(c.getName());
        StringWriter text = new StringWriter();
        PrintWriter out = new PrintWriter(text);
        ToolProvider.findFirst("javap").orElseThrow().run(out, out, args.toArray(new String[0]));
        return text.toString();
    }

    private static void bytecode() {
        Map<String, Set<String>> calls = new HashMap<>();
        Set<String> visible = new TreeSet<>();
        String type = "";
        String method = "";
        for (String line : disassembled().split("\n")) {
            Matcher head = Pattern.compile("^\\S.*class (\\S+).* \\{$").matcher(line);
            Matcher named = Pattern.compile("^  (\\S.*[ ])?([\\w$]+)\\(.*\\);$").matcher(line);
            Matcher call = Pattern.compile("// (?:Interface)?Method (?:(\\S+)\\.)?(\"?[\\w<>$]+\"?):").matcher(line);
            if (head.find()) {
                type = head.group(1);
            } else if (named.find()) {
                method = type + "." + (named.group(2).equals(type) ? "\"<init>\"" : named.group(2));
                calls.putIfAbsent(method, new TreeSet<>());
                if (line.startsWith("  public ")) visible.add(method);
            } else if (call.find()) {
                String target = (call.group(1) == null ? type : call.group(1)) + "." + call.group(2);
                calls.get(method).add(target);
                rule(4, target.startsWith("ChainVotes") || LIBRARY.contains(target), method + " calls " + target);
            }
            rule(2, !line.contains("invokedynamic"), method + " has a lambda or joins texts by +");
            rule(6, !line.contains("athrow") && !line.contains("Exception table"), method + " throws or catches");
        }
        rule(11, visible.size() == FACE.trim().split("\n").length, "javap shows " + visible.size() + " visible methods");
        for (String from : visible) {
            int depth = depth(from, calls, 1);
            rule(11, depth <= 8, from + " goes " + depth + " deep");
        }
    }

    /** How many calls of the class's own stand open at once at the most. */
    private static int depth(String from, Map<String, Set<String>> calls, int level) {
        if (level > 20) return level;
        int most = level;
        for (String to : calls.getOrDefault(from, Set.of())) {
            if (to.startsWith("ChainVotes")) most = Math.max(most, depth(to, calls, level + 1));
        }
        return most;
    }

    private static void source() throws java.io.IOException {
        List<String> lines = Files.readAllLines(SOURCE);
        int start = -1;
        for (int i = 0; i < lines.size(); i++) {
            String raw = lines.get(i);
            String line = raw.replaceAll("//.*|/\\*\\*?.*|\"[^\"]*\"|'.'", " ");
            String at = " in line " + (i + 1);
            rule(6, !line.matches(".*\\b(throw|throws|try|catch|finally|synchronized|assert)\\b.*"), "a forbidden word" + at);
            rule(2, !line.contains("->") && !line.contains("::"), "a lambda or method reference" + at);
            rule(4, !line.startsWith("import") || line.equals("import java.util.Arrays;"), "an import" + at);
            rule(3, raw.chars().allMatch(c -> c < 128), "a sign beyond 127" + at);
            rule(0, !line.startsWith("package"), "a package line");
            boolean opens = line.matches("    (    )?[^ }].*\\) \\{\\s*");
            if (opens && !line.contains(" class ")) start = i;
            if (start >= 0 && line.matches("    (    )?\\}\\s*") && indent(raw) == indent(lines.get(start))) {
                rule(11, i - start + 1 <= 60, "a method of " + (i - start + 1) + " lines" + at);
                start = -1;
            }
        }
    }

    private static int indent(String line) {
        return line.length() - line.stripLeading().length();
    }

    public static void main(String[] args) throws java.io.IOException {
        documentsFace();
        face();
        shapes();
        bytecode();
        source();
        System.out.println(wrong == 0 ? "the rules that can be seen are kept" : wrong + " places are outside the rules");
        if (wrong != 0) System.exit(1);
    }
}
