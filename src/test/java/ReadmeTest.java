import java.io.IOException;
import java.lang.reflect.Method;
import java.lang.reflect.Modifier;
import java.net.URL;
import java.net.URLClassLoader;
import java.nio.file.Files;
import java.nio.file.Path;
import java.util.ArrayList;
import java.util.Arrays;
import java.util.HashSet;
import java.util.List;
import java.util.Set;
import java.util.function.Consumer;
import java.util.regex.Matcher;
import java.util.regex.Pattern;
import java.util.stream.Stream;
import javax.tools.JavaCompiler;
import javax.tools.ToolProvider;

/** What README.md tells is so: its examples compile and answer as they say, and the files it names are there. */
public final class ReadmeTest {
    private static final Due DUE = new Due("ReadmeTest");
    private static final String RUN = "ReadmeRun";
    private static final Pattern BLOCK = Pattern.compile("(?s)```(\\w+)\n(.*?)```");
    private static final Pattern CALL = Pattern.compile("x\\.(\\w+)\\((.*)\\);");
    private static final Pattern ASKED = Pattern.compile("(x\\.(\\w+)\\(.*\\));\\s*// (-?\\d+|[A-Z]+)(:.*)?");
    private static final Pattern QUOTED = Pattern.compile("`([^`\n]+)`");

    /** The blocks of one language, one behind the other. */
    private static List<String> linesIn(String page, String language) {
        List<String> lines = new ArrayList<>();
        Matcher block = BLOCK.matcher(page);
        while (block.find()) {
            if (block.group(1).equals(language)) {
                lines.addAll(block.group(2).lines().toList());
            }
        }
        return lines;
    }

    /** A line as it stands, but for what is asked: that is held against the answer told behind it. */
    private static String asJava(String line) {
        Matcher asked = ASKED.matcher(line);
        if (!asked.matches()) {
            DUE.holds("its answer is told: " + line, !line.startsWith("x."));
            return line;
        }
        String told = asked.group(3);
        String want = told.matches("[A-Z]+") ? "BridgeNames." + told : told + "L";
        return "out.accept(new long[] {" + asked.group(1) + ", " + want + "});";
    }

    private static String source(List<String> lines) {
        StringBuilder code = new StringBuilder("public final class " + RUN + " {\n");
        code.append("public static void run(java.util.function.Consumer<long[]> out) {\n");
        for (String line : lines) {
            code.append(asJava(line)).append('\n');
        }
        return code.append("}\n}\n").toString();
    }

    private static void examples(List<String> lines) throws Exception {
        List<String> asked = lines.stream().filter(line -> ASKED.matcher(line).matches()).toList();
        Path made = Files.createTempDirectory("readme");
        try {
            Path file = Files.writeString(made.resolve(RUN + ".java"), source(lines));
            JavaCompiler compiler = ToolProvider.getSystemJavaCompiler();
            String classes = System.getProperty("java.class.path");
            int code = compiler.run(null, null, null, "-cp", classes, "-d", made.toString(), file.toString());
            DUE.is("compiling the examples", code, 0);
            List<long[]> answers = new ArrayList<>();
            if (code == 0) {
                run(made, answers::add);
            }
            DUE.is("answers", answers.size(), asked.size());
            for (int i = 0; i < answers.size(); i++) {
                DUE.is(asked.get(i), answers.get(i)[0], answers.get(i)[1]);
            }
        } finally {
            remove(made);
        }
    }

    private static void run(Path made, Consumer<long[]> out) throws Exception {
        URL[] places = {made.toUri().toURL()};
        try (URLClassLoader loader = new URLClassLoader(places, ReadmeTest.class.getClassLoader())) {
            loader.loadClass(RUN).getMethod("run", Consumer.class).invoke(null, out);
        }
    }

    private static void remove(Path directory) throws IOException {
        try (Stream<Path> inside = Files.list(directory)) {
            for (Path file : inside.toList()) {
                Files.delete(file);
            }
        }
        Files.delete(directory);
    }

    private static void eachCallHasAnExample(List<String> lines) {
        Set<String> shown = new HashSet<>();
        for (String line : lines) {
            Matcher call = CALL.matcher(line);
            if (call.find()) {
                shown.add(call.group(1));
            }
        }
        for (Method m : BridgeNames.class.getDeclaredMethods()) {
            if (Modifier.isPublic(m.getModifiers())) {
                DUE.holds("an example of " + m.getName(), shown.contains(m.getName()));
            }
        }
    }

    private static void constants(String page) {
        DUE.holds("BAD", page.contains("`BAD` " + BridgeNames.BAD));
        DUE.holds("NO", page.contains("`NO` " + BridgeNames.NO));
        DUE.holds("FULL", page.contains("`FULL` " + BridgeNames.FULL));
        DUE.holds("NONE", page.contains("`NONE` " + BridgeNames.NONE));
    }

    /** The calls that the page says answer otherwise where a number is BAD, and no others. */
    private static void otherAnswers(String page) throws Exception {
        Matcher told = Pattern.compile("\\((-10 from .*), (-100 from .*), (-1 from .*)\\)").matcher(page);
        DUE.holds("the other answers are told", told.find());
        for (Method m : BridgeNames.class.getDeclaredMethods()) {
            if (Modifier.isPublic(m.getModifiers()) && m.getParameterCount() > 0) {
                long want = BridgeNames.BAD;
                for (int k = 1; k <= 3; k++) {
                    String part = told.group(k);
                    boolean isIn = part.contains("`" + m.getName() + "`");
                    want = isIn ? Long.parseLong(part.substring(0, part.indexOf(' '))) : want;
                }
                Object[] numbers = new Object[m.getParameterCount()];
                Arrays.fill(numbers, -7);
                long got = ((Number) m.invoke(new BridgeNames(), numbers)).longValue();
                DUE.is(m.getName() + " of wrong numbers", got, want);
            }
        }
    }

    /** Paths that are quoted, and classes of the tests and inside the class. */
    private static void names(String page) throws IOException {
        String classes = Files.readString(Path.of("src/main/java/BridgeNames.java"));
        Matcher quoted = QUOTED.matcher(page.replaceAll("(?s)```.*?```", ""));
        while (quoted.find()) {
            String name = quoted.group(1);
            if (name.contains("/") && !name.contains("*") && !name.startsWith("../")) {
                DUE.holds(name + " is there", Files.exists(Path.of(name)));
            } else if (name.matches("[A-Z][a-z]\\w*")) {
                boolean isTest = Files.exists(Path.of("src/test/java/" + name + ".java"));
                boolean isInside = classes.contains("class " + name + " {");
                DUE.holds("a class " + name, isTest || isInside);
            }
        }
        try (Stream<Path> tests = Files.list(Path.of("src/test/java"))) {
            for (Path test : tests.toList()) {
                String name = test.getFileName().toString().replace(".java", "");
                DUE.holds(name + " is told of", !name.endsWith("Test") || page.contains("`" + name + "`"));
            }
        }
        Matcher inside = Pattern.compile("static final class (\\w+)").matcher(classes);
        while (inside.find()) {
            DUE.holds(inside.group(1) + " is told of", page.contains("`" + inside.group(1) + "`"));
        }
    }

    private static void commands(String page) {
        List<String> lines = linesIn(page, "sh");
        DUE.holds("how all tests are run", lines.contains(".ci/run"));
        DUE.holds(".ci/run can be run", Files.isExecutable(Path.of(".ci/run")));
        for (String line : lines) {
            for (String word : line.split(" ")) {
                boolean isSource = word.startsWith("src/") && !word.contains("*");
                DUE.holds(word + " is there", !isSource || Files.exists(Path.of(word)));
            }
        }
    }

    public static void main(String[] args) throws Exception {
        String page = Files.readString(Path.of("README.md"));
        List<String> lines = linesIn(page, "java");
        examples(lines);
        eachCallHasAnExample(lines);
        constants(page);
        otherAnswers(page);
        names(page);
        commands(page);
        DUE.end();
    }
}
