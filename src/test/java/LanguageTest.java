import java.io.IOException;
import java.lang.reflect.Constructor;
import java.lang.reflect.Field;
import java.lang.reflect.Method;
import java.lang.reflect.Modifier;
import java.nio.file.Files;
import java.nio.file.Path;
import java.util.ArrayList;
import java.util.Arrays;
import java.util.HashSet;
import java.util.List;
import java.util.Set;
import java.util.TreeSet;
import java.util.regex.Matcher;
import java.util.regex.Pattern;

/** What of LANGUAGE.md can be seen by reading the program and by looking at its compiled class. */
public final class LanguageTest {
    private static final Due T = new Due("LanguageTest");
    private static final Path SOURCE = Path.of("src/main/java/SeatsToTheReluctant.java");
    private static final Path DOCUMENT = Path.of("../shared/DOC.md");

    public static void main(String[] args) throws IOException {
        String source = Files.readString(SOURCE);
        signs(source);
        words(bare(source));
        methodLengths(bare(source));
        face();
        insideClasses();
        T.end();
    }

    private static void rule(int number, String what, boolean holds) {
        T.due("rule " + number + ": " + what, holds ? 1 : 0, 1);
    }

    private static void signs(String source) {
        rule(3, "signs 1 to 127", source.chars().allMatch(c -> c > 0 && c < 128));
    }

    /** The source without comments, and with empty texts and signs. */
    private static String bare(String source) {
        String kept = source.replaceAll("(?s)/\\*.*?\\*/", "").replaceAll("//[^\n]*", "");
        return kept.replaceAll("\"(\\\\.|[^\"\\\\])*\"", "\"\"").replaceAll("'(\\\\.|[^'\\\\])'", "'0'");
    }

    private static void words(String bare) {
        String[] never = {
            "throw", "throws", "try", "catch", "finally", "synchronized", "assert", "var", "yield", "sealed", "strictfp",
            "native", "volatile", "transient", "protected", "goto", "Object", "System.out", "hashCode", "toString",
            "Random", "Thread", "NaN", "import static", "package"
        };
        for (String word : never) {
            rule(6, "no " + word, !Pattern.compile("\\b" + Pattern.quote(word) + "\\b").matcher(bare).find());
        }
        rule(2, "no lambda", !bare.contains("->"));
        rule(2, "no method reference", !bare.contains("::"));
        rule(5, "no static block", !Pattern.compile("\\bstatic\\s*\\{").matcher(bare).find());
        rule(4, "no ..Exact", !Pattern.compile("Exact\\b").matcher(bare).find());
        rule(10, "no text joined by +", !Pattern.compile("\"\\s*\\+|\\+\\s*\"").matcher(bare).find());
        List<String> imports = new ArrayList<>();
        Matcher m = Pattern.compile("(?m)^import (.*);$").matcher(bare);
        while (m.find()) {
            imports.add(m.group(1));
        }
        rule(4, "imports", Arrays.asList("java.util.Arrays").equals(imports));
        // No object is made but in a field's initialiser, or in the constructor's loop over the shelves.
        m = Pattern.compile("(?m)^.*\\bnew\\b.*$").matcher(bare);
        while (m.find()) {
            String line = m.group().trim();
            rule(12, "no object made by a call: " + line, line.startsWith("private final ")
                || line.equals("shelves[s] = new Shelf();"));
            rule(12, "nothing of the object is handed out as it is made: " + line, !line.matches(".*\\bnew \\w+\\([^)].*"));
        }
    }

    private static void methodLengths(String bare) {
        int depth = 0;
        int lines = 0;
        boolean method = false;
        int methodDepth = 0;
        String name = "";
        for (String line : bare.split("\n")) {
            boolean head = line.matches("\\s+.*\\) \\{\\s*") && !line.matches(".*\\b(if|for|while|switch|else)\\b.*");
            boolean openHead = line.matches("\\s+\\|\\|.*\\) \\{\\s*") || line.matches("\\s+&&.*\\) \\{\\s*");
            if (!method && head && !openHead) {
                method = true;
                methodDepth = depth;
                lines = 0;
                name = line.trim();
            }
            lines++;
            depth += line.chars().filter(c -> c == '{').count() - line.chars().filter(c -> c == '}').count();
            if (method && depth == methodDepth) {
                rule(11, "some sixty lines: " + name + " has " + lines, lines <= 60);
                method = false;
            }
        }
        rule(11, "all braces are closed", depth == 0);
    }

    private static void face() throws IOException {
        Set<String> due = new TreeSet<>();
        Matcher m = Pattern.compile("(?m)^    public ([^;=]*)(= -1)?;$").matcher(Files.readString(DOCUMENT));
        while (m.find()) {
            due.add(m.group(1).trim().replaceAll("(\\w+) \\w+([,)])", "$1$2"));
        }
        Class<?> c = SeatsToTheReluctant.class;
        Set<String> got = new TreeSet<>();
        for (Method method : c.getDeclaredMethods()) {
            if (!Modifier.isPrivate(method.getModifiers()) && !method.isSynthetic()) {
                got.add(method.getReturnType().getName() + " " + method.getName() + parameters(method.getParameterTypes()));
            }
        }
        for (Constructor<?> constructor : c.getDeclaredConstructors()) {
            got.add(c.getName() + parameters(constructor.getParameterTypes()));
        }
        for (Field field : c.getDeclaredFields()) {
            if (!Modifier.isPrivate(field.getModifiers())) {
                got.add(Modifier.toString(field.getModifiers()).replace("public ", "") + " " + field.getType() + " "
                    + field.getName());
            }
        }
        rule(1, "41 promises and NONE: " + due.size(), due.size() == 42);
        rule(1, "the face is the document's: " + got + " for " + due, got.equals(due));
        rule(1, "public and final", Modifier.isPublic(c.getModifiers()) && Modifier.isFinal(c.getModifiers()));
    }

    private static String parameters(Class<?>[] types) {
        List<String> names = new ArrayList<>();
        for (Class<?> type : types) {
            names.add(type.getName());
        }
        return "(" + String.join(", ", names) + ")";
    }

    private static void insideClasses() {
        Class<?> outer = SeatsToTheReluctant.class;
        Set<String> face = new HashSet<>();
        for (Method method : outer.getMethods()) {
            face.add(method.getName());
        }
        List<Class<?>> all = new ArrayList<>(Arrays.asList(outer.getDeclaredClasses()));
        rule(11, "some twelve classes", all.size() <= 11);
        all.add(outer);
        for (Class<?> c : all) {
            String name = c.getSimpleName();
            if (c != outer) {
                rule(2, name + " is static", Modifier.isStatic(c.getModifiers()));
                rule(1, name + " isn't public", (c.getModifiers() & (Modifier.PUBLIC | Modifier.PROTECTED)) == 0);
                rule(2, name + " has none inside", c.getDeclaredClasses().length == 0);
            }
            int fields = 0;
            for (Field field : c.getDeclaredFields()) {
                boolean isStatic = Modifier.isStatic(field.getModifiers());
                fields += isStatic ? 0 : 1;
                rule(5, name + "." + field.getName() + " is final, if static",
                    !isStatic || Modifier.isFinal(field.getModifiers()));
            }
            rule(11, name + " has some twenty fields", fields <= 20);
            for (Method method : c.getDeclaredMethods()) {
                rule(11, method + " takes at most seven", method.getParameterCount() <= 7);
                rule(1, method + " bears no public one's name",
                    !Modifier.isPrivate(method.getModifiers()) || !face.contains(method.getName()));
            }
        }
    }
}
