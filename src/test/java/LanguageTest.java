import java.lang.reflect.Constructor;
import java.lang.reflect.Field;
import java.lang.reflect.Method;
import java.lang.reflect.Modifier;
import java.nio.file.Files;
import java.nio.file.Path;
import java.util.ArrayList;
import java.util.Arrays;
import java.util.HashSet;
import java.util.List;
import java.util.Set;
import java.util.TreeSet;
import java.util.regex.Matcher;
import java.util.regex.Pattern;

/** The public face of the document, and those rules of LANGUAGE.md that can be seen without much reading. */
public final class LanguageTest {
    private static final String FACE = "type(int) clearText() load() faultKind() setSheet(int,int) "
        + "setBase(int,int,int,int) addPanel(int,int,int,int,int,int) removeLast() setAngle(int,int) "
        + "setSize(int,int,int) setFlap(int,int) defineImage(int,int,int) place(int,int,int,int,int) "
        + "clearImage(int) continueImage(int,boolean) spreadImage(int) setLimit(int,int) setWeight(int,int) "
        + "undo() save(int) restore(int) flat(int,int) cutLength() creaseLength() pitch(int,int,boolean) "
        + "rowCount(int,int) corner(int,int,int) facing(int) openLength(int,int) seamCount() seam(int,int) "
        + "coverage(int) volume() leastTolerance() crossings(int) foldStep(int) imageAt(int,int,int,int) "
        + "reach(int,int) findingCount() finding(int,int) totalCost() panelCost(int) bestDepth(int) "
        + "bestAngle(int) count(int)";
    private static final Set<String> LONG = Set.of("volume", "totalCost", "panelCost");

    private static final Due due = new Due();

    public static void main(String[] args) throws Exception {
        face();
        members();
        source();
        methodLengths();
        due.end();
    }

    private static void face() {
        Class<DieLineChecker> c = DieLineChecker.class;
        due.is("public and final", c.getModifiers(), Modifier.PUBLIC | Modifier.FINAL);
        due.is("one constructor", c.getDeclaredConstructors().length, 1);
        Constructor<?> made = c.getDeclaredConstructors()[0];
        due.is("public, without parameters", made.getModifiers() == Modifier.PUBLIC && made.getParameterCount() == 0 ? 1 : 0, 1);
        Set<String> want = new TreeSet<>(Arrays.asList(FACE.split(" ")));
        Set<String> got = new TreeSet<>();
        for (Method m : c.getDeclaredMethods()) {
            if (!Modifier.isPrivate(m.getModifiers())) {
                List<String> types = new ArrayList<>();
                for (Class<?> p : m.getParameterTypes()) {
                    types.add(p.getName());
                }
                got.add(m.getName() + "(" + String.join(",", types) + ")");
                due.is(m.getName() + " is public", m.getModifiers(), Modifier.PUBLIC);
                Class<?> answer = LONG.contains(m.getName()) ? long.class : int.class;
                due.is(m.getName() + " returns " + answer, m.getReturnType() == answer ? 1 : 0, 1);
            }
        }
        due.is("the methods " + got, got.equals(want) ? 1 : 0, 1);
        Set<String> constants = new HashSet<>();
        for (Field f : c.getDeclaredFields()) {
            if (!Modifier.isPrivate(f.getModifiers())) {
                constants.add(f.getName());
                int modifiers = Modifier.PUBLIC | Modifier.STATIC | Modifier.FINAL;
                due.is(f.getName() + " is a constant", f.getModifiers(), modifiers);
            }
        }
        due.is("the constants", constants.equals(Set.of("BAD", "STATE", "FULL", "CLASH", "NONE")) ? 1 : 0, 1);
        due.is("BAD", DieLineChecker.BAD, -1);
        due.is("STATE", DieLineChecker.STATE, -2);
        due.is("FULL", DieLineChecker.FULL, -3);
        due.is("CLASH", DieLineChecker.CLASH, -4);
        due.is("NONE", DieLineChecker.NONE, -9);
    }

    private static void members() {
        Set<String> names = new HashSet<>();
        for (String method : FACE.split(" ")) {
            names.add(method.substring(0, method.indexOf('(')));
        }
        List<Class<?>> all = new ArrayList<>(List.of(DieLineChecker.class.getDeclaredClasses()));
        due.is("at most twelve classes", all.size() + 1 <= 12 ? 1 : 0, 1);
        for (Class<?> c : all) {
            due.is(c + " is static", c.getModifiers() & Modifier.STATIC, Modifier.STATIC);
            due.is(c + " has no classes inside", c.getDeclaredClasses().length, 0);
        }
        all.add(DieLineChecker.class);
        for (Class<?> c : all) {
            int fields = 0;
            for (Field f : c.getDeclaredFields()) {
                boolean constant = Modifier.isStatic(f.getModifiers());
                fields += constant ? 0 : 1;
                due.is(f + " is final if static", !constant || Modifier.isFinal(f.getModifiers()) ? 1 : 0, 1);
            }
            due.is(c + " has at most twenty fields", fields <= 20 ? 1 : 0, 1);
            for (Method m : c.getDeclaredMethods()) {
                boolean free = c == DieLineChecker.class && Modifier.isPublic(m.getModifiers());
                due.is(m + " has no name of the face", free || !names.contains(m.getName()) ? 1 : 0, 1);
                due.is(m + " has at most seven parameters", m.getParameterCount() <= 7 ? 1 : 0, 1);
                due.is(m + " is no lambda", m.isSynthetic() ? 1 : 0, 0);
            }
        }
    }

    private static String code() throws Exception {
        String text = Files.readString(Path.of("src/main/java/DieLineChecker.java"));
        return text.replaceAll("(?s)/\\*.*?\\*/", "").replaceAll("//[^\n]*", "");
    }

    private static void source() throws Exception {
        String code = code();
        String[] words = {"throw", "throws", "try", "catch", "finally", "synchronized", "assert", "import", "package",
            "instanceof", "Object", "hashCode", "toString", "System", "Thread", "volatile", "native", "double", "float"};
        for (String word : words) {
            due.is("no " + word, Pattern.compile("\\b" + word + "\\b").matcher(code).find() ? 1 : 0, 0);
        }
        due.is("no lambda or method reference", code.contains("->") || code.contains("::") ? 1 : 0, 0);
        Matcher library = Pattern.compile("\\bMath\\.(\\w+)").matcher(code);
        while (library.find()) {
            due.is("Math." + library.group(1), Set.of("min", "max", "abs").contains(library.group(1)) ? 1 : 0, 1);
        }
        for (char c : code.toCharArray()) {
            due.is("plain signs", c == '\n' || c >= 32 && c < 127 ? 1 : 0, 1);
        }
    }

    /** Counts the lines of each method by the indentation of its first and last line. */
    private static void methodLengths() throws Exception {
        String[] lines = code().split("\n");
        for (int i = 0; i < lines.length; i++) {
            Matcher head = Pattern.compile("^(    |        )(\\S.*\\) \\{)$").matcher(lines[i]);
            if (head.matches()) {
                int end = i;
                while (end < lines.length - 1 && !lines[end].equals(head.group(1) + "}")) {
                    end++;
                }
                due.is(head.group(2) + " is short", end - i < 60 ? 1 : 0, 1);
            }
        }
    }
}
