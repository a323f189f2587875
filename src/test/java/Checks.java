import java.io.IOException;
import java.lang.reflect.InvocationTargetException;
import java.lang.reflect.Method;
import java.lang.reflect.Modifier;
import java.nio.file.Files;
import java.nio.file.Path;

/**
 * What the tests by hand share: the codes, some courses, whole texts, and how an answer is held against the due
 * one.
 */
abstract class Checks {
    static final int NO_SUCH = -1, BAD_VALUE = -2, BAD_TEXT = -3, TOO_MANY = -4, NOT_POSSIBLE = -5, NONE = -6;
    static final int FLOW = 0, HARD = 1, NECK = 2, SILT = 3;
    static final int RIGHT = 0, UP = 1, LEFT = 2, DOWN = 3;
    static final int MIN = Integer.MIN_VALUE, MAX = Integer.MAX_VALUE;

    /** One bend, numbers 8 to 11, that grows up: its bank is (5, 9) to (8, 9). */
    static final String HILL = "0,5:r5u3r3d3r5";
    /** One bend of two cells, 8 and 9, with the bank (5, 9), (6, 9), and three necks below it. */
    static final String LOOP = "0,5:r5u3rd3r5";
    /** Two loops with two necks each: 2 to 7, 3 to 6, 10 to 15 and 11 to 14. */
    static final String TWINS = "0,5:r2u2rd2r3u2rd2r2";
    /** Two bends that share the bank (3, 5) to (5, 5), and three more. */
    static final String FACING = "0,2:r3u2r2d2r3u6l3d2l2u2l2";
    /** Seven rows of 20 cells each, and ten cells of the next: 150 cells. */
    static final String FULL = "0,0:r9r9rul9l9lur9r9rul9l9lur9r9rul9l9lur9r9rul9";
    /** Eight rows of 18 cells each, and a column of land at each side into which the seven bends grow: 144 cells. */
    static final String ROWS = "1,0:r9r8ul9l8ur9r8ul9l8ur9r8ul9l8ur9r8ul9l8";
    /** Two loops of nine necks each, nested in one another. */
    static final String TOWERS = "0,1:r2u9rd9r2u9rd9r2";

    private static final String DOCUMENT = document();

    private static int answers;
    private static int wrong;
    private static String topic = "";

    private static String document() {
        try {
            return spaced(Files.readString(Path.of("../shared/DOC.md")));
        } catch (IOException e) {
            return "";
        }
    }

    private static String spaced(String text) {
        return text.replaceAll("\\s+", " ");
    }

    /** Runs each method of a class that is static and takes and answers nothing, and fails if one says no sentence. */
    static void runAll(Class<?> tests) {
        for (Method method : tests.getDeclaredMethods()) {
            boolean isTest = Modifier.isStatic(method.getModifiers()) && !method.isSynthetic()
                && method.getParameterCount() == 0 && method.getReturnType() == void.class;
            if (isTest) {
                topic = "";
                run(method);
                if (topic.isEmpty()) {
                    say(method.getName() + " says no sentence of the document");
                }
            }
        }
        end();
    }

    private static void run(Method method) {
        try {
            method.setAccessible(true);
            method.invoke(null);
        } catch (IllegalAccessException | InvocationTargetException e) {
            Throwable cause = e.getCause() == null ? e : e.getCause();
            say(method.getName() + " threw " + cause + " at " + cause.getStackTrace()[0]);
        }
    }

    private static void end() {
        System.out.println(answers + " answers, " + wrong + " of them wrong");
        if (wrong != 0 || answers == 0) {
            System.exit(1);
        }
    }

    private static void say(String text) {
        wrong++;
        System.out.println(text);
    }

    /** Names what is tested next. */
    static void start(String name) {
        topic = name;
    }

    /**
     * Quotes the sentence of the document that is tested next; tells, but does not fail, if it is not there any
     * more.
     */
    static void sentence(String quoted) {
        start(quoted);
        if (!DOCUMENT.contains(spaced(quoted))) {
            System.out.println("note: the document does not say: " + quoted);
        }
    }

    static void due(String call, int got, int want) {
        answers++;
        if (got != want) {
            say(topic + ": " + call + " answered " + got + ", due is " + want);
        }
    }

    static void due(int got, int want) {
        due(got == want ? "" : place(), got, want);
    }

    /** The lines of the test that is running, from the inmost one on. */
    private static String place() {
        StringBuilder lines = new StringBuilder("the call in");
        for (StackTraceElement element : new Throwable().getStackTrace()) {
            String file = element.getFileName();
            if (file != null && file.endsWith("Test.java") && !element.getMethodName().equals("main")) {
                lines.append(" ").append(file).append(":").append(element.getLineNumber());
            }
        }
        return lines.toString();
    }

    /** Each of these answers is the same one. */
    static void dueEach(int want, int... got) {
        for (int k = 0; k < got.length; k++) {
            due(got[k] == want ? "" : place() + ", its answer " + k + ",", got[k], want);
        }
    }

    static void putText(OxbowReaches x, String text) {
        x.wipe();
        for (int k = 0; k < text.length(); k += 8) {
            x.put(packed(text.substring(k, Math.min(text.length(), k + 8))));
        }
    }

    static int readText(OxbowReaches x, String text) {
        putText(x, text);
        return x.read();
    }

    static int readNew(String text) {
        return readText(new OxbowReaches(), text);
    }

    static OxbowReaches river(String text) {
        OxbowReaches x = new OxbowReaches();
        if (readText(x, text) < 2) {
            say(topic + ": no course is read from " + text);
        }
        return x;
    }

    /** A river that neither grows nor is cut for years, so that one rule can be looked at alone. */
    static OxbowReaches stillRiver(String text) {
        OxbowReaches x = river(text);
        x.set(HARD, 60);
        x.set(NECK, 20);
        return x;
    }

    /** A text of at most eight characters as the number that put takes. */
    static long packed(String text) {
        long characters = 0;
        for (int k = 0; k < text.length(); k++) {
            characters = characters * 256 + text.charAt(k);
        }
        return characters;
    }

    /** Lets the years 0 to 998 pass, so that the present one is 999. */
    static void passToTheLastYear(OxbowReaches x) {
        for (int k = 0; k < 19; k++) {
            x.pass(50);
        }
        x.pass(49);
        due("the year", x.count(5), 999);
    }

    static void dueCounts(OxbowReaches x, int first, int... wanted) {
        for (int k = 0; k < wanted.length; k++) {
            due("count(" + (first + k) + ")", x.count(first + k), wanted[k]);
        }
    }

    /** The cells of the course from number first on: the x and the y of each. */
    static void dueCourse(OxbowReaches x, int first, int... wanted) {
        for (int k = 0; k + 1 < wanted.length; k += 2) {
            int number = first + k / 2;
            due("course(" + number + ", 0)", x.course(number, 0), wanted[k]);
            due("course(" + number + ", 1)", x.course(number, 1), wanted[k + 1]);
        }
    }

    static void dueBend(OxbowReaches x, int bend, int... wanted) {
        for (int what = 0; what < wanted.length; what++) {
            due("bend(" + bend + ", " + what + ")", x.bend(bend, what), wanted[what]);
        }
    }

    static void dueNeck(OxbowReaches x, int neck, int... wanted) {
        for (int what = 0; what < wanted.length; what++) {
            due("neck(" + neck + ", " + what + ")", x.neck(neck, what), wanted[what]);
        }
    }

    static void dueOxbow(OxbowReaches x, int oxbow, int... wanted) {
        for (int what = 0; what < wanted.length; what++) {
            due("oxbow(" + oxbow + ", " + what + ")", x.oxbow(oxbow, what), wanted[what]);
        }
    }
}
