import java.io.IOException;
import java.lang.reflect.Constructor;
import java.lang.reflect.Field;
import java.lang.reflect.Method;
import java.lang.reflect.Modifier;
import java.nio.file.Files;
import java.nio.file.Path;
import java.util.ArrayList;
import java.util.Arrays;
import java.util.Collections;
import java.util.List;
import java.util.TreeSet;
import java.util.regex.Matcher;
import java.util.regex.Pattern;

/** The class's face is the document's, and its source keeps to what can be looked for of LANGUAGE.md. */
public final class LanguageTest {
    private static final String SOURCE = "src/main/java/NamedDwarf.java";
    private static final String[] FACE = {
        "int type(int, int)", "int wipe(int)", "int undo(int)", "int fault(int)", "int name(int, int)",
        "int set(int, int)", "int guess(int)", "int unguess()", "int read(int)", "int fits()",
        "long chance(int, int)", "int heard(int)", "int off(int)", "int named(int, int)", "int row(int)",
        "long mean(int)", "long wisest(int, int, int)", "int listen(int)", "int sure()", "int spun(int)",
        "int pool(int, int, int)", "int shortest(int)", "int sung(int, int)", "int changes(int, int)",
        "int sheet(int, int, int)", "int lose(int)", "int lay(int, int, int, int)", "int get(int, int, int)",
        "int copy(int, int, int, int, int)", "int write(int)", "int count(int)", "long digest()"};
    private static final Due due = new Due("LanguageTest");

    public static void main(String[] args) throws IOException {
        face();
        String code = withoutComments(Files.readString(Path.of(SOURCE)));
        words(code);
        library(code);
        shape(code);
        due.end();
    }

    private static void face() {
        List<String> found = new ArrayList<>();
        for (Method m : NamedDwarf.class.getDeclaredMethods()) {
            if (Modifier.isPrivate(m.getModifiers())) {
                due.holds("no public name for " + m, Arrays.stream(FACE).noneMatch(f -> f.contains(" " + m.getName() + "(")));
            } else {
                due.holds("public alone " + m, m.getModifiers() == Modifier.PUBLIC);
                String kinds = Arrays.toString(m.getParameterTypes()).replace("[", "(").replace("]", ")");
                found.add(m.getReturnType() + " " + m.getName() + kinds);
            }
        }
        List<String> want = new ArrayList<>(Arrays.asList(FACE));
        Collections.sort(want);
        Collections.sort(found);
        due.holds("methods " + found, found.equals(want));
        TreeSet<String> constants = new TreeSet<>();
        for (Field f : NamedDwarf.class.getDeclaredFields()) {
            if (!Modifier.isPrivate(f.getModifiers())) {
                due.holds("constant " + f, Modifier.isStatic(f.getModifiers()) && Modifier.isFinal(f.getModifiers()));
                constants.add(f.getName());
            }
            due.holds("no changing static " + f, !Modifier.isStatic(f.getModifiers()) || Modifier.isFinal(f.getModifiers()));
        }
        due.holds("constants " + constants, constants.equals(new TreeSet<>(List.of("NONE", "BAD", "NOT", "FULL"))));
        Constructor<?>[] makers = NamedDwarf.class.getDeclaredConstructors();
        due.holds("one constructor", makers.length == 1 && makers[0].getModifiers() == Modifier.PUBLIC
                && makers[0].getParameterCount() == 0);
        due.holds("public and final", NamedDwarf.class.getModifiers() == (Modifier.PUBLIC | Modifier.FINAL));
        Class<?>[] inside = NamedDwarf.class.getDeclaredClasses();
        due.holds("some twelve classes", inside.length < 12);
        for (Class<?> c : inside) {
            due.holds("private and static " + c, Modifier.isStatic(c.getModifiers()) && Modifier.isPrivate(c.getModifiers()));
            due.holds("some twenty fields " + c, c.getDeclaredFields().length <= 20);
            for (Field f : c.getDeclaredFields()) {
                due.holds("no changing static " + f, !Modifier.isStatic(f.getModifiers()) || Modifier.isFinal(f.getModifiers()));
            }
        }
    }

    private static String withoutComments(String source) {
        return source.replaceAll("(?s)/\\*.*?\\*/", " ").replaceAll("//[^\n]*", " ");
    }

    private static void words(String code) {
        String[] forbidden = {"throw", "throws", "try", "catch", "finally", "synchronized", "assert", "native", "volatile",
            "transient", "package", "equals", "hashCode", "toString", "Object", "Random", "Thread", "\\w+Exact"};
        for (String word : forbidden) {
            due.holds("no " + word, !Pattern.compile("\\b" + word + "\\b").matcher(code).find());
        }
        due.holds("no lambda", !code.contains("->"));
        due.holds("no method reference", !code.contains("::"));
        due.holds("signs 1 to 127", code.chars().allMatch(c -> c >= 1 && c <= 127));
    }

    private static void library(String code) {
        Matcher calls = Pattern.compile("\\b(Arrays|Math|Integer|Long|System|String|StringBuilder|List)\\.(\\w+)").matcher(code);
        List<String> allowed = List.of("Arrays.fill", "Math.max", "Math.min", "Integer.bitCount", "System.arraycopy");
        while (calls.find()) {
            due.holds("library " + calls.group(), allowed.contains(calls.group()));
        }
        Matcher imports = Pattern.compile("\\bimport\\s+([\\w.*]+)").matcher(code);
        while (imports.find()) {
            due.holds("import " + imports.group(1), imports.group(1).equals("java.util.Arrays"));
        }
    }

    private static void shape(String code) {
        int start = 0;
        int number = 0;
        for (String line : code.split("\n")) {
            number++;
            boolean opens = line.matches("\\s+[\\w\\[\\] ]+\\([\\w\\[\\], ]*\\) \\{") && !line.matches("\\s+(if|for|switch|else) .*");
            if (opens) {
                start = number;
                due.holds("at most seven parameters: " + line, line.chars().filter(c -> c == ',').count() < 7);
            }
            if (line.matches("( {4}| {8})}")) {
                due.holds("some sixty lines up to " + number, start == 0 || number - start <= 60);
                start = 0;
            }
        }
        // what a run makes is made with the object: no call makes one, but for the first that needs WISEST
        Matcher made = Pattern.compile("(?m)^( *)(.*)\\bnew\\b.*$").matcher(code);
        while (made.find()) {
            due.holds("made with the object: " + made.group().trim(), made.group(2).contains("private final")
                    || made.group().contains("bytes = new int[Math.max(0, limit)]")
                    || made.group().contains("least = new int["));
        }
    }
}
