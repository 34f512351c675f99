import java.lang.reflect.Constructor;
import java.lang.reflect.Field;
import java.lang.reflect.Method;
import java.lang.reflect.Modifier;
import java.nio.file.Files;
import java.nio.file.Path;
import java.util.ArrayList;
import java.util.List;
import java.util.Set;
import java.util.TreeSet;
import java.util.regex.Matcher;
import java.util.regex.Pattern;

/** The face as the document has it, and those rules of LANGUAGE.md that a program can see. */
public final class RulesTest {
    private static int wrong = 0;

    public static void main(String[] args) throws Exception {
        String source = Files.readString(Path.of("src/main/java/LikePages.java"));
        face(Files.readString(Path.of("../shared/DOC.md")));
        names();
        words(source.replaceAll("(?s)/\\*.*?\\*/", "").replaceAll("//[^\n]*", ""));
        methods(source);
        System.out.println(wrong == 0 ? "the rules are kept" : wrong + " rules are broken");
        if (wrong != 0) {
            System.exit(1);
        }
    }

    private static void fail(String text) {
        wrong++;
        System.out.println(text);
    }

    /** Rule 1: just the document's members are to be seen. */
    private static void face(String document) {
        String block = document.substring(document.indexOf("```java"), document.indexOf("```\n", document.indexOf("```java") + 7));
        Set<String> want = new TreeSet<>();
        Matcher m = Pattern.compile("public (int|boolean) (\\w+)\\(([^)]*)\\);").matcher(block);
        while (m.find()) {
            int many = m.group(3).isEmpty() ? 0 : m.group(3).split(",").length;
            want.add(m.group(1) + " " + m.group(2) + " " + many);
        }
        Set<String> got = new TreeSet<>();
        for (Method method : LikePages.class.getDeclaredMethods()) {
            if (!Modifier.isPrivate(method.getModifiers())) {
                got.add(method.getReturnType() + " " + method.getName() + " " + method.getParameterCount());
            }
        }
        if (!want.equals(got)) {
            fail("the face is " + got + ", due is " + want);
        }
        for (Field field : LikePages.class.getDeclaredFields()) {
            if (!Modifier.isPrivate(field.getModifiers()) && !field.getName().equals("NONE")) {
                fail("a field to be seen: " + field);
            }
        }
        Constructor<?>[] constructors = LikePages.class.getDeclaredConstructors();
        if (constructors.length != 1 || !Modifier.isPublic(constructors[0].getModifiers()) || !Modifier.isFinal(LikePages.class.getModifiers())) {
            fail("the class is not public and final with one public constructor");
        }
    }

    /** Rules 1, 2, 5, 11: names, classes, fields. */
    private static void names() {
        Set<String> shown = new TreeSet<>();
        for (Method m : LikePages.class.getDeclaredMethods()) {
            if (Modifier.isPublic(m.getModifiers())) {
                shown.add(m.getName());
            }
        }
        List<Class<?>> classes = new ArrayList<>(List.of(LikePages.class.getDeclaredClasses()));
        if (classes.size() + 1 > 12) {
            fail("too many classes: " + (classes.size() + 1));
        }
        classes.add(LikePages.class);
        for (Class<?> c : classes) {
            if (c != LikePages.class && !Modifier.isStatic(c.getModifiers())) {
                fail("no static class: " + c);
            }
            int fields = 0;
            for (Field f : c.getDeclaredFields()) {
                boolean shared = Modifier.isStatic(f.getModifiers());
                fields += shared ? 0 : 1;
                if (shared && (!Modifier.isFinal(f.getModifiers()) || !f.getType().isPrimitive())) {
                    fail("static state: " + f);
                }
            }
            if (fields > 20) {
                fail(c + " has " + fields + " fields");
            }
            for (Method m : c.getDeclaredMethods()) {
                if (!(c == LikePages.class && Modifier.isPublic(m.getModifiers())) && shown.contains(m.getName())) {
                    fail("a name of the face: " + m);
                }
                if (m.getParameterCount() > 7) {
                    fail("too many parameters: " + m);
                }
            }
        }
    }

    /** Rules 2, 3, 4, 6, 13: what must not stand in the source at all; the document names no exception. */
    private static void words(String code) {
        for (String word : new String[] {"->", "::", "try", "catch", "finally", "throw", "synchronized", "assert", "package",
            "Float", "Double", "System.out", "Random", "hashCode", "toString"}) {
            String quoted = Pattern.quote(word);
            Pattern pattern = Character.isLetter(word.charAt(0)) ? Pattern.compile("\\b" + quoted + "\\b") : Pattern.compile(quoted);
            if (pattern.matcher(code).find()) {
                fail("stands in the source: " + word);
            }
        }
        Matcher m = Pattern.compile("import ([^;]*);").matcher(code);
        while (m.find()) {
            if (!Set.of("java.util.ArrayList", "java.util.Arrays").contains(m.group(1))) {
                fail("import of " + m.group(1));
            }
        }
    }

    /** Rule 11: some sixty lines a method; a method starts at a brace behind a parenthesis, and ends at its own depth. */
    private static void methods(String source) {
        String[] lines = source.split("\n");
        for (int from = 0; from < lines.length; from++) {
            Matcher m = Pattern.compile("^( +)(public|private|static|int|void|boolean|Page|State)\\b[^=;]*\\) \\{$").matcher(lines[from]);
            if (!m.find()) {
                continue;
            }
            int to = from;
            while (to < lines.length && !lines[to].equals(m.group(1) + "}")) {
                to++;
            }
            if (to - from > 60) {
                fail("a long method at line " + (from + 1));
            }
        }
    }
}
