import java.io.IOException;
import java.lang.reflect.Field;
import java.lang.reflect.Method;
import java.lang.reflect.Modifier;
import java.nio.file.Files;
import java.nio.file.Path;
import java.util.ArrayList;
import java.util.Arrays;
import java.util.List;
import java.util.TreeSet;
import java.util.regex.Matcher;
import java.util.regex.Pattern;

/** Those rules of LANGUAGE.md that can be seen from the class's text and its compiled form. */
public final class LanguageTest {
    private static final String[] BARRED = {"finally", "synchronized", "assert", "package", "Object",
        "Thread", "static {", "getMessage", "Throwable", "Exception", "Error",
        "ArrayIndexOutOfBoundsException", "NullPointerException", "ClassCastException",
        "NegativeArraySizeException", "ArrayStoreException"};
    private static final Pattern OF_A_CLASS = Pattern.compile("\\b[A-Z]\\w*[a-z]\\w*\\.\\w+");
    private static final Pattern ALLOWED = Pattern.compile("(Integer|Long|Math)\\.[a-z]\\w*(?<!Exact)"
        + "|System\\.arraycopy|Arrays\\.(copyOf|copyOfRange|fill)");
    private static final Pattern THROWN = Pattern.compile("\\bthrow\\b[^;]*;");
    private static final Pattern METHOD = Pattern.compile(
        "( {4}| {8})(?!(?:if|for|while|switch|do|else)\\b)\\w[\\w\\[\\] ]+\\([^()]*\\)[\\w ]*\\{");

    private LanguageTest() {
    }

    public static void main(String[] args) throws IOException {
        String whole = Files.readString(Path.of("src", "main", "java", "FermionMaps.java"));
        String text = withoutCommentsAndTexts(whole);
        words(text);
        library(text);
        lengths(whole);
        List<Class<?>> classes = new ArrayList<>(List.of(FermionMaps.class.getDeclaredClasses()));
        classes.add(FermionMaps.class);
        Check.due("rule 11: classes", classes.size() <= 12, true);
        for (Class<?> one : classes) {
            fields(one);
            for (Method method : one.getDeclaredMethods()) {
                Check.due("rule 11: " + method, method.getParameterCount() <= 7, true);
            }
        }
        Check.end();
    }

    private static String withoutCommentsAndTexts(String text) {
        return text.replaceAll("(?s)/\\*.*?\\*/", "").replaceAll("//.*", "")
            .replaceAll("\"[^\"]*\"", "\"\"").replace("import java.util.NoSuchElementException;", "");
    }

    private static void words(String text) {
        Check.due("no import beside the face's", text.contains("import "), false);
        Check.due("rule 2: no lambda", text.contains("->") || text.contains("::"), false);
        for (String word : BARRED) {
            Pattern pattern = Pattern.compile("(?<!\\w)" + Pattern.quote(word) + "(?!\\w)");
            Check.due("no " + word, found(pattern, text), "[]");
        }
        // The document names one exception; a text behind it is a written one.
        TreeSet<String> thrown = found(THROWN, text);
        thrown.removeAll(Arrays.asList("throw new NoSuchElementException(\"\");",
            "throw new NoSuchElementException();"));
        Check.due("rule 6: thrown", thrown, "[]");
    }

    /** Rule 4: "The library: only what stands here.", constants of its classes not among it. */
    private static void library(String text) {
        TreeSet<String> used = found(OF_A_CLASS, text);
        used.removeIf(name -> ALLOWED.matcher(name).matches());
        for (Class<?> own : FermionMaps.class.getDeclaredClasses()) {
            used.removeIf(name -> name.startsWith(own.getSimpleName() + "."));
        }
        Check.due("rule 4: what is used of other classes", used, "[]");
    }

    private static TreeSet<String> found(Pattern pattern, String text) {
        TreeSet<String> names = new TreeSet<>();
        for (Matcher matcher = pattern.matcher(text); matcher.find();) {
            names.add(matcher.group());
        }
        return names;
    }

    /** Rule 11: "Methods stay short (some sixty lines)" */
    private static void lengths(String text) {
        String[] lines = text.split("\n");
        int methods = 0;
        for (int first = 0; first < lines.length; first++) {
            Matcher method = METHOD.matcher(lines[first]);
            if (method.matches()) {
                methods++;
                int last = first;
                while (last < lines.length && !lines[last].equals(method.group(1) + "}")) {
                    last++;
                }
                Check.due("rule 11: lines of" + lines[first], last - first < 60, true);
            }
        }
        Check.due("methods are found", methods >= 12, true);
    }

    /** Rule 5: "Static fields are final"; rule 11: "a class some twenty fields". */
    private static void fields(Class<?> one) {
        int own = 0;
        for (Field field : one.getDeclaredFields()) {
            if (Modifier.isStatic(field.getModifiers())) {
                Check.due("rule 5: " + field, Modifier.isFinal(field.getModifiers()), true);
            } else {
                own++;
            }
        }
        Check.due("rule 11: fields of " + one, own <= 20, true);
    }
}
