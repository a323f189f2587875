import java.io.IOException;
import java.lang.reflect.Constructor;
import java.lang.reflect.Field;
import java.lang.reflect.Method;
import java.lang.reflect.Modifier;
import java.nio.file.Files;
import java.nio.file.Path;
import java.util.Arrays;
import java.util.HashSet;
import java.util.List;
import java.util.Set;
import java.util.TreeSet;
import java.util.regex.Matcher;
import java.util.regex.Pattern;

/** The rules of ../shared/LANGUAGE.md that can be seen in the program's text and in its compiled face. */
public final class LanguageTest {
    private static final Path PROGRAM = Path.of("src/main/java/OxbowReaches.java");

    private static final List<String> FACE = List.of(
        "int bend(int,int)", "int cell(int,int,int)", "int count(int)", "int course(int,int)", "int cut(int)",
        "int dike(int,int,boolean)", "int fault()", "int flood(int,boolean)", "int ifPassed(int,int)",
        "int isFlood(int)", "int neck(int,int)", "int nextCut(int)", "int oxbow(int,int)", "int pass(int)",
        "int put(long)", "int read()", "int restore(int)", "int save(int)", "int set(int,int)", "int taken(int,int)",
        "int undo()", "int wipe()");
    private static final List<String> CONSTANTS = List.of(
        "BAD_TEXT=-3", "BAD_VALUE=-2", "FLOW=0", "HARD=1", "NECK=2", "NONE=-6", "NOT_POSSIBLE=-5", "NO_SUCH=-1",
        "SILT=3", "TOO_MANY=-4");

    private static final List<String> FORBIDDEN = List.of(
        "\\bthrow\\b", "\\bthrows\\b", "\\btry\\b", "\\bcatch\\b", "\\bsynchronized\\b", "\\bassert\\b", "->", "::",
        "\\bpackage\\b", "\\bequals\\b", "\\bhashCode\\b", "\\btoString\\b", "\\bmain\\b", "\\bThread\\b",
        "\\bRandom\\b", "\\bClock\\b", "Exact\\b", "Exception", "\\bstatic\\s*\\{", "\\[\\]\\[\\]",
        "\\bSystem\\.(?!arraycopy\\b)", "\\bMath\\.(?!abs\\b|max\\b|min\\b)", "\\bArrays\\.(?!fill\\b)",
        "\\bimport\\s+(?!java\\.util\\.Arrays;)");

    private static int wrong;

    public static void main(String[] args) throws IOException {
        face();
        textKeepsTheRules(Files.readString(PROGRAM));
        if (wrong != 0) {
            System.exit(1);
        }
    }

    private static void say(String text) {
        wrong++;
        System.out.println("language: " + text);
    }

    private static void face() {
        Class<?> program = OxbowReaches.class;
        if (program.getModifiers() != (Modifier.PUBLIC | Modifier.FINAL)) {
            say("the class is not public and final alone");
        }
        Set<String> methods = new TreeSet<>();
        Set<String> names = new HashSet<>();
        for (Method method : program.getDeclaredMethods()) {
            if (Modifier.isPublic(method.getModifiers())) {
                methods.add(signature(method));
                names.add(method.getName());
            } else if (!Modifier.isPrivate(method.getModifiers())) {
                say(method + " is neither public nor private");
            }
        }
        if (!methods.equals(new TreeSet<>(FACE))) {
            say("the public methods are " + methods);
        }
        constants(program);
        for (Constructor<?> constructor : program.getDeclaredConstructors()) {
            if (!Modifier.isPublic(constructor.getModifiers()) || constructor.getParameterCount() != 0) {
                say(constructor + " is no constructor of the face");
            }
        }
        privateNames(program, names);
        for (Class<?> inside : program.getDeclaredClasses()) {
            privateNames(inside, names);
            if (!Modifier.isStatic(inside.getModifiers()) || !Modifier.isPrivate(inside.getModifiers())) {
                say(inside + " is not private and static");
            }
        }
        if (program.getDeclaredClasses().length > 11) {
            say("there are more than twelve classes");
        }
    }

    private static String signature(Method method) {
        StringBuilder text = new StringBuilder(method.getReturnType() + " " + method.getName() + "(");
        String between = "";
        for (Class<?> parameter : method.getParameterTypes()) {
            text.append(between).append(parameter);
            between = ",";
        }
        return text.append(")").toString();
    }

    private static void constants(Class<?> program) {
        Set<String> constants = new TreeSet<>();
        for (Field field : program.getDeclaredFields()) {
            int modifiers = field.getModifiers();
            if (Modifier.isPublic(modifiers)) {
                try {
                    constants.add(field.getName() + "=" + field.getInt(null));
                } catch (IllegalAccessException | NullPointerException e) {
                    say(field + " is no constant");
                }
            } else if (!Modifier.isPrivate(modifiers)) {
                say(field + " is neither public nor private");
            }
        }
        if (!constants.equals(new TreeSet<>(CONSTANTS))) {
            say("the public constants are " + constants);
        }
    }

    private static void privateNames(Class<?> owner, Set<String> taken) {
        int fields = 0;
        for (Method method : owner.getDeclaredMethods()) {
            if (!Modifier.isPublic(method.getModifiers()) && taken.contains(method.getName())) {
                say(method + " bears the name of a public one");
            }
            if (method.getParameterCount() > 7) {
                say(method + " takes more than seven parameters");
            }
        }
        for (Field field : owner.getDeclaredFields()) {
            boolean isStatic = Modifier.isStatic(field.getModifiers());
            if (isStatic && !Modifier.isFinal(field.getModifiers())) {
                say(field + " is static and not final");
            }
            fields += isStatic ? 0 : 1;
        }
        if (fields > 20) {
            say(owner + " has more than twenty fields");
        }
    }

    private static void textKeepsTheRules(String text) {
        String code = text.replaceAll("(?s)/\\*.*?\\*/", " ").replaceAll("//[^\n]*", " ");
        for (String pattern : FORBIDDEN) {
            Matcher matcher = Pattern.compile(pattern).matcher(code);
            if (matcher.find()) {
                say("the program's text has '" + matcher.group() + "'");
            }
        }
        if (text.chars().anyMatch(sign -> sign > 126)) {
            say("the program's text has a sign above 126");
        }
        methodsAreShort(text);
    }

    /** A method starts at a line that ends with an opening brace behind a bracket, and ends at its own indent. */
    private static void methodsAreShort(String text) {
        List<String> lines = Arrays.asList(text.split("\n"));
        for (int k = 0; k < lines.size(); k++) {
            String line = lines.get(k);
            if (!line.matches(" {4,8}[a-zA-Z].*\\) \\{") || line.matches(" *(if|for|while|switch)\\b.*")) {
                continue;
            }
            String end = line.replaceAll("\\S.*", "") + "}";
            int length = lines.subList(k, lines.size()).indexOf(end);
            if (length < 0 || length > 60) {
                say("too long: " + line.trim());
            }
        }
    }
}
