import java.io.IOException;
import java.lang.reflect.Constructor;
import java.lang.reflect.Field;
import java.lang.reflect.Member;
import java.lang.reflect.Method;
import java.lang.reflect.Modifier;
import java.nio.file.Files;
import java.nio.file.Path;
import java.util.Set;
import java.util.TreeSet;
import java.util.regex.Matcher;
import java.util.regex.Pattern;

/** The face, and those rules of LANGUAGE.md that can be read off the class or its source. */
public final class LanguageTest {
    private static int wrong = 0;

    private static void wrong(int rule, String what) {
        wrong++;
        System.out.println("rule " + rule + ": " + what);
    }

    private static String plain(String declaration) {
        return declaration.replaceAll("java\\.util\\.", "").replaceAll("LifeKeys\\.(?=\\w+\\()", "").replaceAll("\\s*,\\s*", ",").trim();
    }

    /** The declarations of the document's face, with the names of parameters left out. */
    private static Set<String> dueFace() throws IOException {
        String doc = Files.readString(Path.of("../shared/DOC.md"));
        String face = doc.substring(doc.indexOf("public final class"), doc.indexOf("```", doc.indexOf("public final class")));
        Set<String> due = new TreeSet<>();
        for (String line : face.split("\n")) {
            if (line.startsWith("    public") && line.contains("(")) {
                due.add(plain(line.replaceAll("(\\w+) \\w+(?=[,)])", "$1").replace(";", "")));
            }
        }
        return due;
    }

    private static void checkFace() throws IOException {
        Set<String> is = new TreeSet<>();
        for (Constructor<?> c : LifeKeys.class.getDeclaredConstructors()) {
            is.add(plain(c.toString()));
        }
        for (Method m : LifeKeys.class.getDeclaredMethods()) {
            if (!Modifier.isPrivate(m.getModifiers())) {
                is.add(plain(m.toString()));
            }
        }
        Set<String> due = dueFace();
        if (due.size() != 51 || !is.equals(due)) {
            Set<String> lacking = new TreeSet<>(due);
            lacking.removeAll(is);
            is.removeAll(due);
            wrong(1, "the face lacks " + lacking + " and has " + is);
        }
        int modifiers = LifeKeys.class.getModifiers();
        if (!Modifier.isFinal(modifiers) || !Modifier.isPublic(modifiers)) {
            wrong(1, "the class is not public and final");
        }
        for (Field f : LifeKeys.class.getDeclaredFields()) {
            if (!Modifier.isPrivate(f.getModifiers()) && !f.toString().equals("public static final int LifeKeys.NONE")) {
                wrong(1, f.toString());
            }
        }
    }

    private static Set<String> publicNames() {
        Set<String> names = new TreeSet<>();
        for (Member m : LifeKeys.class.getDeclaredMethods()) {
            if (Modifier.isPublic(m.getModifiers())) {
                names.add(m.getName());
            }
        }
        return names;
    }

    private static void checkClass(Class<?> c) {
        int fields = 0;
        for (Field f : c.getDeclaredFields()) {
            boolean isStatic = Modifier.isStatic(f.getModifiers());
            fields += isStatic ? 0 : 1;
            if (isStatic && !Modifier.isFinal(f.getModifiers())) {
                wrong(5, f.toString());
            }
        }
        if (fields > 20) {
            wrong(11, c + " has " + fields + " fields");
        }
        for (Method m : c.getDeclaredMethods()) {
            if (m.getParameterCount() > 7) {
                wrong(11, m.toString());
            }
            if (!Modifier.isPublic(m.getModifiers()) && publicNames().contains(m.getName())) {
                wrong(1, m + " bears the name of a public one");
            }
        }
        if (c != LifeKeys.class && (!Modifier.isStatic(c.getModifiers()) || Modifier.isPublic(c.getModifiers()))) {
            wrong(1, c.toString());
        }
    }

    private static void checkSource(String source) {
        String code = source.replaceAll("(?s)/\\*.*?\\*/", "").replaceAll("//[^\n]*", "").replaceAll("\"[^\"\n]*\"", "\"\"");
        for (char c : source.toCharArray()) {
            if (c > 126 || c < 32 && c != '\n') {
                wrong(4, "sign " + (int) c);
            }
        }
        String[][] barred = {
            {"2", "->"}, {"2", "::"}, {"3", "\\b(double|float)\\b"}, {"4", "\\w+Exact\\b"}, {"4", "String\\.format|\\bSystem\\.(?!arraycopy)"},
            {"4", "^import (?!java\\.util\\.NoSuchElementException;)"}, {"5", "static \\{"}, {"6", "\\b(try|catch|finally|assert|synchronized)\\b"},
            {"6", "\\b(equals|hashCode|toString)\\("}, {"10", "\"\" *\\+|\\+ *\"\""}, {"13", "\\b(Random|Thread|Math\\.random|nanoTime)\\b"},
            {"1", "^package "}};
        for (String[] b : barred) {
            Matcher m = Pattern.compile(b[1], Pattern.MULTILINE).matcher(code);
            if (m.find()) {
                wrong(Integer.parseInt(b[0]), "'" + m.group() + "' stands in the source");
            }
        }
        Matcher thrown = Pattern.compile("throw\\b[^;]*;").matcher(code);
        while (thrown.find()) {
            if (!thrown.group().matches("throw new NoSuchElementException\\(\"\"\\);")) {
                wrong(6, thrown.group());
            }
        }
        checkLengths(code);
    }

    /** A method begins with a line that ends in ") {" or "throws ... {" at 4 or 8 blanks, and ends with } there. */
    private static void checkLengths(String code) {
        String[] lines = code.split("\n");
        int classes = 0;
        for (int i = 0; i < lines.length; i++) {
            classes += lines[i].matches("\\s*(public |private |static |final |abstract )*(class|enum|interface|record) .*") ? 1 : 0;
            Matcher head = Pattern.compile("( {4}| {8})\\w.*\\).*\\{").matcher(lines[i]);
            if (head.matches() && !lines[i].trim().matches("(if|for|while|switch|\\}).*")) {
                int end = i;
                while (end < lines.length && !lines[end].equals(head.group(1) + "}")) {
                    end++;
                }
                if (end - i > 60) {
                    wrong(11, lines[i].trim() + " has " + (end - i) + " lines");
                }
            }
        }
        if (classes > 12) {
            wrong(11, classes + " classes");
        }
    }

    public static void main(String[] args) throws IOException {
        checkFace();
        checkClass(LifeKeys.class);
        for (Class<?> c : LifeKeys.class.getDeclaredClasses()) {
            checkClass(c);
        }
        checkSource(Files.readString(Path.of("src/main/java/LifeKeys.java")));
        if (wrong != 0) {
            System.exit(1);
        }
        System.out.println("the face and the rules that can be read off are kept");
    }
}
