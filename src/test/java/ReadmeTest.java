import java.io.IOException;
import java.lang.reflect.Method;
import java.lang.reflect.Modifier;
import java.net.URL;
import java.net.URLClassLoader;
import java.nio.file.FileSystems;
import java.nio.file.Files;
import java.nio.file.Path;
import java.util.ArrayList;
import java.util.Comparator;
import java.util.List;
import java.util.regex.Matcher;
import java.util.regex.Pattern;
import javax.tools.ToolProvider;

/** What README.md says is so: its examples are compiled as they stand, and each answer that they tell is asked for. */
public final class ReadmeTest {
    private static final Path README = Path.of("README.md");
    private static final Path CI = Path.of(".ci/run");
    private static final Pattern BLOCK = Pattern.compile("(?s)```(\\w+)\n(.*?)```");
    private static final Pattern ANSWER = Pattern.compile("^([a-z]\\.\\w+\\(.*\\)); +// (-?\\d+)(:.*)?$");
    private static int wrong = 0;

    public static void main(String[] args) throws Exception {
        String page = Files.readString(README);
        lookAtExamples(page);
        lookAtCalls(page);
        lookAtTests(page);
        lookAtCommand(page);
        System.out.println(wrong == 0 ? "README.md is so" : wrong + " faults in README.md");
        if (wrong != 0) {
            System.exit(1);
        }
    }

    private static void say(String what) {
        wrong++;
        System.out.println(what);
    }

    private static void lookAtExamples(String page) throws Exception {
        StringBuilder methods = new StringBuilder();
        StringBuilder lines = new StringBuilder();
        int answers = 0;
        Matcher block = BLOCK.matcher(page);
        while (block.find()) {
            if (!block.group(1).equals("java")) {
                continue;
            }
            if (block.group(2).startsWith("static ")) {
                methods.append(block.group(2));
                continue;
            }
            for (String line : block.group(2).split("\n")) {
                Matcher m = ANSWER.matcher(line);
                if (m.find()) {
                    answers++;
                    lines.append("due(\"").append(m.group(1)).append("\", ").append(m.group(1)).append(", ")
                        .append(m.group(2)).append(");\n");
                } else {
                    lines.append(line).append('\n');
                    if (line.matches("[a-z]\\.\\w+\\(.*")) {
                        say("no answer is told: " + line);
                    }
                }
            }
        }
        if (answers == 0 || methods.length() == 0) {
            say("there are no examples");
            return;
        }
        for (String fault : compileAndRun(methods.toString(), lines.toString())) {
            say(fault);
        }
    }

    /** What the examples answer otherwise than they tell. */
    private static List<String> compileAndRun(String methods, String lines) throws Exception {
        String source = "import java.util.*;\npublic final class Example {\n"
            + "static final List<String> FAULTS = new ArrayList<>();\n"
            + "static void due(String call, long got, long want) {\n"
            + "if (got != want) { FAULTS.add(call + \" answers \" + got + \", README.md tells \" + want); }\n}\n"
            + methods + "public static List<String> run() {\n" + lines + "return FAULTS;\n}\n}\n";
        Path folder = Files.createTempDirectory("readme");
        try {
            Path file = Files.writeString(folder.resolve("Example.java"), source);
            int code = ToolProvider.getSystemJavaCompiler().run(null, null, null, "-nowarn", "-proc:none", "-d",
                folder.toString(), "-cp", System.getProperty("java.class.path"), file.toString());
            if (code != 0) {
                return List.of("the examples do not compile");
            }
            try (URLClassLoader loader = new URLClassLoader(new URL[] {folder.toUri().toURL()})) {
                List<String> faults = new ArrayList<>();
                for (Object fault : (List<?>) loader.loadClass("Example").getMethod("run").invoke(null)) {
                    faults.add(fault.toString());
                }
                return faults;
            }
        } finally {
            try (var made = Files.walk(folder)) {
                for (Path path : made.sorted(Comparator.reverseOrder()).toList()) {
                    Files.delete(path);
                }
            }
        }
    }

    private static void lookAtCalls(String page) {
        for (Method m : LastTrick.class.getDeclaredMethods()) {
            if (Modifier.isPublic(m.getModifiers()) && !page.contains("`" + m.getName() + "`")) {
                say("no word of " + m.getName());
            }
        }
    }

    /** Each test has its line, and each line a test. */
    private static void lookAtTests(String page) throws IOException {
        List<Path> tests = new ArrayList<>();
        try (var own = Files.list(Path.of("src/test/java")); var shared = Files.list(Path.of("../shared/tests"))) {
            tests.addAll(own.toList());
            tests.addAll(shared.toList());
        }
        boolean[] named = new boolean[tests.size()];
        Matcher line = Pattern.compile("(?m)^\\| `([^`]*\\.java)` \\|").matcher(page);
        while (line.find()) {
            var matcher = FileSystems.getDefault().getPathMatcher("glob:" + line.group(1));
            boolean any = false;
            for (int i = 0; i < named.length; i++) {
                boolean it = matcher.matches(tests.get(i));
                named[i] |= it;
                any |= it;
            }
            if (!any) {
                say("there is no " + line.group(1));
            }
        }
        for (int i = 0; i < named.length; i++) {
            if (!named[i]) {
                say("no line tells of " + tests.get(i));
            }
        }
        try (var help = Files.list(Path.of("src/test/help"))) {
            for (Path file : help.toList()) {
                String name = file.getFileName().toString().replace(".java", "");
                if (!page.contains("`" + name + "`")) {
                    say("no word of " + file);
                }
            }
        }
    }

    private static void lookAtCommand(String page) throws IOException {
        Matcher block = BLOCK.matcher(page);
        List<String> commands = new ArrayList<>();
        while (block.find()) {
            if (block.group(1).equals("sh")) {
                commands.add(block.group(2).strip());
            }
        }
        if (!commands.equals(List.of(CI.toString()))) {
            say("the commands are " + commands);
        }
        if (!Files.isExecutable(CI)) {
            say(CI + " can't be run");
        }
        if (!Files.readString(CI).contains("for test in src/test/java/*.java ../shared/tests/*.java; do")) {
            say(CI + " does not go over all tests");
        }
    }
}
