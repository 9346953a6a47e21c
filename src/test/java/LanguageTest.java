import java.io.IOException;
import java.lang.reflect.Field;
import java.lang.reflect.Method;
import java.lang.reflect.Modifier;
import java.nio.file.Files;
import java.nio.file.Path;
import java.util.List;
import java.util.Set;
import java.util.TreeSet;
import java.util.regex.MatchResult;
import java.util.regex.Pattern;
import java.util.stream.Collectors;

/** What can be seen of LANGUAGE.md in the program's text and in its compiled classes. */
public final class LanguageTest {
    private static final Check CHECK = new Check();
    private static final Set<String> IMPORTS = Set.of("java.util.Arrays", "java.util.ArrayList",
            "java.util.List", "java.util.Iterator", "java.util.NoSuchElementException");
    private static final Set<String> EXCEPTIONS = Set.of("IllegalStateException",
            "IllegalArgumentException", "IndexOutOfBoundsException", "ArithmeticException",
            "UnsupportedOperationException", "NoSuchElementException", "RuntimeException");
    private static final Set<String> FUNCTIONS = Set.of("Arrays.fill", "Arrays.copyOf",
            "Arrays.copyOfRange", "System.arraycopy", "Math.min", "Math.max", "Math.abs",
            "Math.floorDiv", "Math.floorMod", "Integer.bitCount", "Integer.compare", "List.of");
    private static final String[] RULED_OUT = {
        "->", "::", "\\bfinally\\b", "\\bsynchronized\\b", "\\bassert\\b", "\\bvolatile\\b",
        "\\bnative\\b", "\\bprotected\\b", "\\bpackage\\b", "\\bstatic\\s*\\{", "\\bhashCode\\b",
        "\\btoString\\b", "\\bThread\\b", "\\bRandom\\b", "\\bwhile\\s*\\(true\\)", "\\bfor\\s*\\(;;",
    };

    private final String text;

    private LanguageTest(String text) {
        this.text = text;
    }

    public static void main(String[] args) throws IOException {
        String whole = Files.readString(Path.of("src/main/java/PegBoards.java"));
        LanguageTest test = new LanguageTest(withoutCommentsAndTexts(whole));
        test.nothingRuledOut();
        test.imports();
        test.functionsOfTheLibrary();
        test.exceptions();
        test.nothingIsMadeByACall();
        test.lengthsOfMethods();
        classesInside();
        CHECK.end();
    }

    private static String withoutCommentsAndTexts(String whole) {
        return whole.replaceAll("(?s)/\\*.*?\\*/", "").replaceAll("//[^\n]*", "")
                .replaceAll("\"[^\"\n]*\"", "\"\"");
    }

    private static void holds(String what, boolean so) {
        CHECK.same(what, "so", so ? "so" : "not so");
    }

    private List<MatchResult> all(String pattern) {
        return Pattern.compile(pattern).matcher(text).results().collect(Collectors.toList());
    }

    private void nothingRuledOut() {
        for (String each : RULED_OUT) {
            holds("no " + each, all(each).isEmpty());
        }
    }

    private void imports() {
        for (MatchResult m : all("\\bimport\\s+([\\w.*]+);")) {
            holds("rule 4: import " + m.group(1), IMPORTS.contains(m.group(1)));
        }
    }

    private void functionsOfTheLibrary() {
        for (MatchResult m : all("\\b((?:Integer|Long|Math|System|Arrays|List|String)\\.\\w+)(\\(?)")) {
            holds("rule 4: " + m.group(1),
                    FUNCTIONS.contains(m.group(1)) && m.group(2).equals("("));
        }
    }

    private void exceptions() {
        int throwing = all("\\bthrow\\b").size();
        List<MatchResult> written = all("\\bthrow new (\\w+)\\((\"\")?\\);");
        holds("rule 6: each throw makes its exception, with a written text",
                throwing == written.size());
        for (MatchResult m : written) {
            holds("rule 6: " + m.group(1), EXCEPTIONS.contains(m.group(1)));
        }
    }

    /** All calls live in one room, so rows are made with the object and used again. */
    private void nothingIsMadeByACall() {
        for (String line : text.split("\n")) {
            if (line.matches(".*\\bnew\\b.*")) {
                boolean ofTheObject = line.matches("\\s+private final [\\w\\[\\]]+ \\w+ = new .*;")
                        || line.matches(" {8}(board|jumps|images|reaching|weighing) = new \\w+\\(\\);");
                holds("made with the object: " + line.trim(),
                        ofTheObject || line.contains("throw new"));
            }
        }
    }

    private void lengthsOfMethods() {
        String[] lines = text.split("\n");
        int methods = 0;
        for (int i = 0; i < lines.length; i++) {
            if (lines[i].matches("( {4}| {8})(?!class)[\\w<>\\[\\] ]+\\(.*") && !lines[i].contains(";")
                    && !lines[i].trim().matches("(if|for|while|switch|else|return)\\b.*")) {
                String indent = lines[i].replaceAll("\\S.*", "");
                int end = i;
                while (!lines[end].equals(indent + "}")) {
                    end++;
                }
                methods++;
                holds("rule 11: lines of" + lines[i], end - i <= 60);
            }
        }
        holds("methods were seen", methods > 50);
    }

    private static void classesInside() {
        Class<?>[] inside = PegBoards.class.getDeclaredClasses();
        holds("rule 11: some twelve classes", inside.length < 12);
        fieldsAndParameters(PegBoards.class);
        for (Class<?> each : inside) {
            holds("rule 1: static " + each, Modifier.isStatic(each.getModifiers()));
            holds("rule 1: not public " + each, !Modifier.isPublic(each.getModifiers()));
            fieldsAndParameters(each);
        }
    }

    private static void fieldsAndParameters(Class<?> each) {
        TreeSet<String> fields = new TreeSet<>();
        for (Field f : each.getDeclaredFields()) {
            boolean fixed = Modifier.isStatic(f.getModifiers());
            holds("rule 5: final " + f, !fixed || Modifier.isFinal(f.getModifiers()));
            holds("rule 3: the type of " + f, isOfTheLanguage(f.getType()));
            if (!fixed) {
                fields.add(f.getName());
            }
        }
        holds("rule 11: some twenty fields of " + each, fields.size() <= 20);
        for (Method m : each.getDeclaredMethods()) {
            holds("rule 11: seven parameters of " + m, m.getParameterCount() <= 7);
        }
    }

    private static boolean isOfTheLanguage(Class<?> type) {
        Class<?> element = type;
        int dimensions = 0;
        while (element.isArray()) {
            element = element.getComponentType();
            dimensions++;
        }
        boolean own = element.getName().startsWith("PegBoards");
        return dimensions <= 2 && element.isPrimitive() || dimensions <= 1 && own
                || type == String.class;
    }
}
