import java.io.IOException;
import java.lang.reflect.Method;
import java.lang.reflect.Modifier;
import java.net.URL;
import java.net.URLClassLoader;
import java.nio.file.DirectoryStream;
import java.nio.file.Files;
import java.nio.file.Path;
import java.util.ArrayList;
import java.util.List;
import java.util.TreeSet;
import java.util.regex.Matcher;
import java.util.regex.Pattern;
import javax.tools.JavaCompiler;
import javax.tools.ToolProvider;

/**
 * What README.md shows of the class's use: its Java blocks compile as they stand, and each call in
 * them answers what the comment behind it says.
 */
public final class ReadmeTest {
    private static final String FENCE = "```";
    private static final String NO_ANSWER = "no answer";
    private static final Pattern NEW = Pattern.compile("FermionMaps maps = new FermionMaps\\(\\);");
    private static final Pattern CALL = Pattern.compile(
        "(maps\\.(\\w+)\\([^()]*\\)); +// (true|false|-?\\d+|NONE|no answer|throws \\w+): .+");

    private final List<List<String>> blocks = new ArrayList<>();
    private final TreeSet<String> shown = new TreeSet<>();

    private ReadmeTest() {
    }

    public static void main(String[] args) throws Exception {
        String text = Files.readString(Path.of("README.md"));
        ReadmeTest test = new ReadmeTest();
        test.findBlocks(text);
        test.compileAndCompare();
        Check.due("methods that README.md shows", test.shown, methodsOfTheFace());
        namesItsTests(text);
        Check.end();
    }

    private void findBlocks(String text) {
        List<String> block = null;
        for (String line : text.split("\n")) {
            if (block == null && line.equals(FENCE + "java")) {
                block = new ArrayList<>();
                blocks.add(block);
            } else if (line.startsWith(FENCE)) {
                block = null;
            } else if (block != null) {
                block.add(line);
            }
        }
        Check.due("README.md has Java blocks", blocks.isEmpty(), false);
    }

    private void compileAndCompare() throws Exception {
        Path folder = Files.createTempDirectory("readme");
        try {
            Path source = folder.resolve("ReadmeUse.java");
            Files.writeString(source, program());
            JavaCompiler compiler = ToolProvider.getSystemJavaCompiler();
            int code = compiler.run(null, null, null, "--release", "17", "-d", folder.toString(),
                "-cp", System.getProperty("java.class.path"), source.toString());
            Check.due("README.md compiles, code", code, 0);
            if (code == 0) {
                compare(folder);
            }
        } finally {
            remove(folder);
        }
    }

    /** Each block twice: as it stands, to be compiled, and with its answers put down, to be run. */
    private String program() {
        StringBuilder text = new StringBuilder("public final class ReadmeUse {\n");
        for (int i = 0; i < blocks.size(); i++) {
            text.append("static void asItStands").append(i).append("() {\n");
            for (String line : blocks.get(i)) {
                text.append(line).append('\n');
            }
            text.append("}\npublic static java.util.List<String> answers").append(i);
            text.append("() {\njava.util.List<String> answers = new java.util.ArrayList<>();\n");
            for (String line : blocks.get(i)) {
                text.append(puttingDown(line)).append('\n');
            }
            text.append("return answers;\n}\n");
        }
        return text.append("}\n").toString();
    }

    private String puttingDown(String line) {
        Matcher call = CALL.matcher(line);
        if (!call.matches()) {
            Check.due("README.md: " + line, NEW.matcher(line).matches() ? "new" : "no call", "new");
            return line;
        }
        shown.add(call.group(2));
        if (call.group(3).equals(NO_ANSWER)) {
            Check.due("README.md: " + line, answersNothing(call.group(2)), true);
            return call.group(1) + "; answers.add(\"" + NO_ANSWER + "\");";
        }
        return "try { answers.add(String.valueOf(" + call.group(1) + ")); } "
            + "catch (RuntimeException e) { "
            + "answers.add(\"throws \" + e.getClass().getSimpleName()); }";
    }

    private void compare(Path folder) throws Exception {
        try (URLClassLoader loader = new URLClassLoader(new URL[] {folder.toUri().toURL()})) {
            Class<?> use = loader.loadClass("ReadmeUse");
            for (int i = 0; i < blocks.size(); i++) {
                List<?> answers = (List<?>) use.getMethod("answers" + i).invoke(null);
                int at = 0;
                for (String line : blocks.get(i)) {
                    Matcher call = CALL.matcher(line);
                    if (call.matches()) {
                        String due = call.group(3).replace("NONE", "" + FermionMaps.NONE);
                        Check.due("README.md: " + call.group(1), answers.get(at), due);
                        at++;
                    }
                }
                Check.due("README.md: calls in block " + i, answers.size(), at);
            }
        }
    }

    private static void remove(Path folder) throws IOException {
        try (DirectoryStream<Path> files = Files.newDirectoryStream(folder)) {
            for (Path file : files) {
                Files.delete(file);
            }
        }
        Files.delete(folder);
    }

    private static TreeSet<String> methodsOfTheFace() {
        TreeSet<String> names = new TreeSet<>();
        for (Method method : FermionMaps.class.getDeclaredMethods()) {
            if (Modifier.isPublic(method.getModifiers())) {
                names.add(method.getName());
            }
        }
        return names;
    }

    private static boolean answersNothing(String name) {
        for (Method method : FermionMaps.class.getDeclaredMethods()) {
            if (method.getName().equals(name)) {
                return method.getReturnType() == void.class;
            }
        }
        return false;
    }

    /** README.md says how to run the tests, and what each of them is. */
    private static void namesItsTests(String text) throws IOException {
        Check.due("README.md names .ci/run", text.contains("\n    .ci/run\n"), true);
        Path tests = Path.of("src", "test", "java");
        try (DirectoryStream<Path> files = Files.newDirectoryStream(tests, "*Test.java")) {
            for (Path file : files) {
                String name = file.getFileName().toString().replace(".java", "");
                Check.due("README.md names " + name, text.contains("`" + name + "`"), true);
            }
        }
    }
}
