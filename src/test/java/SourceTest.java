import java.lang.reflect.Constructor;
import java.lang.reflect.Field;
import java.lang.reflect.Method;
import java.lang.reflect.Modifier;
import java.nio.file.Files;
import java.nio.file.Path;
import java.util.ArrayList;
import java.util.Arrays;
import java.util.List;
import java.util.Set;
import java.util.TreeSet;
import java.util.regex.Matcher;
import java.util.regex.Pattern;

/** The public face is the document's, and the source keeps to what LANGUAGE.md leaves. */
public final class SourceTest {
    private static final String FACE = "long plays(); int type(long,int); int game(); int table(); int told(int);"
        + " int set(int,int); int heap(int,int); int wins(int,int); int clue(int,int,int,int); int forget(); int may(int);"
        + " int sure(int); int under(int,int); int trick(int,int); int first(int); int fewest(int); int drops(); int turned();"
        + " int others(int); int row(int,int,int,int); int leaves(); int who(int,int); int best(int); int falls(int);"
        + " int knows(int,int); int count(int); int image(); int restore(); int sheet(int,int,int); int drop(int);"
        + " int item(int,int,int,int)";
    private static final String[] CONSTANTS = {"BAD", "NOT", "FULL", "NONE", "NULL", "CAST", "INDEX", "SIZE"};
    private static final int[] VALUES = {-1, -2, -3, -4, -11, -12, -13, -14};
    private static int wrong = 0;

    public static void main(String[] args) throws Exception {
        checkFace();
        String code = stripped(Files.readString(Path.of("src/main/java/LastTrick.java")));
        checkWords(code);
        checkMethods(code);
        checkClasses();
        System.out.println(wrong == 0 ? "the source is as due" : wrong + " faults in the source");
        if (wrong != 0) {
            System.exit(1);
        }
    }

    private static void say(String what) {
        wrong++;
        System.out.println(what);
    }

    private static void checkFace() throws Exception {
        Set<String> due = new TreeSet<>();
        for (String method : FACE.split("; ")) {
            due.add(method.trim());
        }
        Set<String> found = new TreeSet<>();
        for (Method m : LastTrick.class.getDeclaredMethods()) {
            if (!Modifier.isPrivate(m.getModifiers())) {
                StringBuilder b = new StringBuilder(m.getReturnType() + " " + m.getName() + "(");
                for (Class<?> type : m.getParameterTypes()) {
                    b.append(b.charAt(b.length() - 1) == '(' ? "" : ",").append(type);
                }
                found.add(b.append(")").toString());
            }
        }
        if (!due.equals(found)) {
            say("the face is " + found);
        }
        List<String> fields = new ArrayList<>();
        for (Field f : LastTrick.class.getDeclaredFields()) {
            if (!Modifier.isPrivate(f.getModifiers())) {
                fields.add(f.getName());
            }
        }
        if (!fields.equals(Arrays.asList(CONSTANTS))) {
            say("the constants are " + fields);
        }
        for (int i = 0; i < CONSTANTS.length; i++) {
            if (LastTrick.class.getField(CONSTANTS[i]).getInt(null) != VALUES[i]) {
                say(CONSTANTS[i] + " has another value");
            }
        }
        Constructor<?>[] made = LastTrick.class.getDeclaredConstructors();
        if (made.length != 1 || made[0].getParameterCount() != 0 || !Modifier.isPublic(made[0].getModifiers())
            || !Modifier.isFinal(LastTrick.class.getModifiers())) {
            say("the constructor or the class is not as due");
        }
    }

    private static String stripped(String source) {
        for (int i = 0; i < source.length(); i++) {
            if (source.charAt(i) > 126) {
                say("a sign beyond 126");
            }
        }
        return source.replaceAll("(?s)/\\*.*?\\*/", "").replaceAll("//[^\n]*", "").replaceAll("'(\\\\.|[^'])'", "0");
    }

    private static void checkWords(String code) {
        String[] words = {"\\b(try|catch|throw|throws|finally|synchronized|assert|import|package|protected|goto|native)\\b", "->", "::",
            "Exact\\b", "static \\{", "\\bvar\\b", "\\bhashCode\\b", "\\btoString\\b", "\\bequals\\b", "\\bvolatile\\b",
            "\\bString\\b", "\\bObject\\b", "while \\(true", "for \\(;;", "System\\.(?!arraycopy)", "\\(\\) \\{\\s*@", "\""};
        for (String word : words) {
            Matcher m = Pattern.compile(word).matcher(code);
            if (m.find()) {
                say("the source has " + m.group());
            }
        }
        Matcher fields = Pattern.compile("static (?!final)[^(;{]*;").matcher(code);
        if (fields.find()) {
            say("a static field that is not final: " + fields.group());
        }
    }

    private static void checkMethods(String code) {
        Set<String> face = new TreeSet<>();
        for (String method : FACE.split("; ")) {
            face.add(method.trim().replaceAll(".* |\\(.*", ""));
        }
        String[] lines = code.split("\n");
        Pattern head = Pattern.compile("^ {4,8}((?:\\w+ )*)([\\w\\[\\]]+) (\\w+)\\(([^)]*)\\) \\{$");
        for (int i = 0; i < lines.length; i++) {
            Matcher m = head.matcher(lines[i]);
            if (!m.find()) {
                continue;
            }
            String indent = lines[i].substring(0, lines[i].length() - lines[i].stripLeading().length());
            int end = i;
            while (!lines[end].equals(indent + "}")) {
                end++;
            }
            if (end - i > 60) {
                say(m.group(3) + " has " + (end - i) + " lines");
            }
            if (!m.group(4).isEmpty() && m.group(4).split(",").length > 7) {
                say(m.group(3) + " takes too much");
            }
            if (!m.group(1).contains("public") && face.contains(m.group(3))) {
                say(m.group(3) + " bears the name of a public method");
            }
        }
    }

    private static void checkClasses() {
        Class<?>[] inside = LastTrick.class.getDeclaredClasses();
        if (inside.length > 11) {
            say((inside.length + 1) + " classes");
        }
        for (Class<?> c : inside) {
            int fields = 0;
            for (Field f : c.getDeclaredFields()) {
                fields += Modifier.isStatic(f.getModifiers()) ? 0 : 1;
            }
            if (fields > 20) {
                say(c + " has " + fields + " fields");
            }
            if (!Modifier.isStatic(c.getModifiers())) {
                say(c + " is not static");
            }
        }
    }
}
