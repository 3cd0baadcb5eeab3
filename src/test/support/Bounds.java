import java.io.IOException;
import java.lang.reflect.InvocationTargetException;
import java.lang.reflect.Method;
import java.lang.reflect.Modifier;
import java.nio.file.Files;
import java.nio.file.Path;
import java.util.Arrays;
import java.util.Comparator;
import java.util.TreeSet;
import java.util.function.Consumer;
import java.util.function.Supplier;

/**
 * What the tests of boundary cases share. Each test is a static method without arguments; it names its promise and
 * the document's words for the boundary case, which have to stand in ../shared/DOC.md.
 */
abstract class Bounds {
    static final int NONE = -1;
    static final int NO_MESSAGE = -2;
    static final int NO_NUMBER = -100000;
    static final int MIN = Integer.MIN_VALUE;
    static final int MAX = Integer.MAX_VALUE;

    private static final Path DOCUMENT = Path.of("../shared/DOC.md");
    private static String document = "";
    private static int wrong = 0;
    private static int promise = 0;
    private static String words = "";
    private static final TreeSet<Integer> NAMED = new TreeSet<>();

    /** The boundary case that the checks behind this one are about. */
    static void sentence(int itsPromise, String itsWords) {
        promise = itsPromise;
        words = itsWords;
        NAMED.add(itsPromise);
        if (!document.isEmpty() && !document.contains(plain(itsWords))) flaw("the document has no such words");
    }

    private static String plain(String text) {
        return text.replaceAll("\\s+", " ");
    }

    /** A test that is wrong by itself. */
    static void flaw(String what) {
        wrong++;
        System.out.println("promise " + promise + " (\"" + words + "\"): the test's own flaw: " + what);
    }

    static void due(String call, int got, int want) {
        due(call, Integer.toString(got), Integer.toString(want));
    }

    static void due(String call, boolean got, boolean want) {
        due(call, Boolean.toString(got), Boolean.toString(want));
    }

    private static void due(String call, String got, String want) {
        if (!got.equals(want)) {
            wrong++;
            System.out.println("promise " + promise + " (\"" + words + "\"): " + call + " answered " + got + ", due is " + want);
        }
    }

    /** Answers 0, 1, .. of something that is asked by number. */
    static void dueRow(String call, java.util.function.IntUnaryOperator ask, int... want) {
        for (int i = 0; i < want.length; i++) due(call + " " + i, ask.applyAsInt(i), want[i]);
    }

    /** Calls that leave all that can be seen as it is with a twin that was not called so. */
    static void changesNothing(Supplier<Votes> made, Consumer<Votes> calls) {
        Votes plain = made.get();
        Votes called = made.get();
        calls.accept(called);
        String[] want = plain.picture().split("\n");
        String[] got = called.picture().split("\n");
        due("how many answers there are behind it", got.length, want.length);
        for (int i = 0; i < Math.min(got.length, want.length); i++) due("behind it", got[i], want[i]);
    }

    static String times(int n, String text) {
        return text.repeat(n);
    }

    /** Runs every test of a class and looks whether each promise from the first to the last was named. */
    static void runAll(Class<? extends Bounds> tests, int first, int last) throws IOException, IllegalAccessException {
        if (Files.isReadable(DOCUMENT)) document = plain(Files.readString(DOCUMENT));
        Method[] methods = tests.getDeclaredMethods();
        Arrays.sort(methods, Comparator.comparing(Method::getName));
        int count = 0;
        for (Method test : methods) {
            boolean isTest = Modifier.isStatic(test.getModifiers()) && !Modifier.isPrivate(test.getModifiers())
                && test.getParameterCount() == 0 && test.getReturnType() == void.class && !test.isSynthetic();
            if (isTest) {
                run(test);
                count++;
            }
        }
        for (int p = first; p <= last; p++) {
            promise = p;
            words = "";
            if (!NAMED.contains(p)) flaw("no test names it");
        }
        System.out.println(count + " boundary cases, " + (wrong == 0 ? "all answers are as due" : wrong + " answers are not as due"));
        if (wrong != 0) System.exit(1);
    }

    private static void run(Method test) throws IllegalAccessException {
        promise = 0;
        words = test.getName();
        try {
            test.invoke(null);
        } catch (InvocationTargetException e) {
            wrong++;
            System.out.println("promise " + promise + " (\"" + words + "\"): " + test.getName() + " was thrown out of by " + e.getCause());
        }
        if (promise == 0) flaw("it names no promise");
    }
}
