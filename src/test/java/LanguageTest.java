import java.lang.reflect.Field;
import java.lang.reflect.Method;
import java.lang.reflect.Modifier;
import java.nio.file.Files;
import java.nio.file.Path;
import java.util.HashSet;
import java.util.Set;

/** Those rules of ../shared/LANGUAGE.md that can be seen by a simple look at the class. Run from the project's root. */
public final class LanguageTest {
    private static int wrong = 0;

    static void need(boolean good, String what) {
        if (!good) {
            wrong++;
            System.out.println("language: " + what);
        }
    }

    public static void main(String[] args) throws Exception {
        face();
        for (Class<?> inner : Manypens.class.getDeclaredClasses()) {
            need(Modifier.isStatic(inner.getModifiers()) && !Modifier.isPublic(inner.getModifiers()), "rule 1: " + inner);
            fields(inner);
        }
        need(Manypens.class.getDeclaredClasses().length <= 12, "rule 11: too many classes");
        words(Files.readString(Path.of("src/main/java/Manypens.java")));
        if (wrong != 0) {
            System.exit(1);
        }
    }

    static void face() {
        Class<?> face = Manypens.class;
        need(Modifier.isFinal(face.getModifiers()), "rule 1: the class is not final");
        Set<String> seen = new HashSet<>();
        for (Method m : face.getDeclaredMethods()) {
            if (Modifier.isPublic(m.getModifiers())) {
                need(seen.add(m.getName()), "rule 1: two of " + m.getName());
            }
        }
        need(seen.size() == 44, "rule 1: " + seen.size() + " public methods, due are 44");
        for (Method m : face.getDeclaredMethods()) {
            need(Modifier.isPublic(m.getModifiers()) || Modifier.isPrivate(m.getModifiers()), "rule 1: " + m);
            need(Modifier.isPublic(m.getModifiers()) || !seen.contains(m.getName()), "rule 1: name of " + m);
            need(m.getParameterCount() <= 7, "rule 11: " + m);
        }
        need(face.getConstructors().length == 1 && face.getDeclaredConstructors().length == 1, "rule 1: constructors");
        for (Field f : face.getDeclaredFields()) {
            need(Modifier.isPrivate(f.getModifiers()), "rule 1: " + f);
        }
        fields(face);
    }

    static void fields(Class<?> c) {
        int many = 0;
        for (Field f : c.getDeclaredFields()) {
            boolean isStatic = Modifier.isStatic(f.getModifiers());
            need(!isStatic || Modifier.isFinal(f.getModifiers()), "rule 5: " + f);
            many += isStatic ? 0 : 1;
        }
        need(many <= 20, "rule 11: " + many + " fields in " + c);
    }

    static void words(String source) {
        String[] banned = {"->", "::", "catch", "finally", "try ", "synchronized", "assert", "instanceof", "Exact(", "getClass",
            "hashCode", "toString", "System.out", "nanoTime", "Random", "Thread", "Object", "super", "protected", " + \"", "static {",
            "_VALUE"};
        for (String word : banned) {
            need(!source.contains(word), "has " + word);
        }
        int start = 0;
        String[] lines = source.split("\n");
        for (int i = 0; i < lines.length; i++) {
            if (lines[i].startsWith("import ")) {
                need(lines[i].equals("import java.util.Arrays;") || lines[i].equals("import java.util.NoSuchElementException;"), "rule 4: " + lines[i]);
            }
            if (lines[i].matches(" {4}( {4})?[^ /*].*\\) .*\\{|.*\\) \\{") && !lines[i].matches(" *(if|for|while|\\}).*")) {
                start = i;
            }
            if (lines[i].matches(" {4}( {4})?\\}")) {
                need(i - start < 60, "rule 11: a method too long, line " + (start + 1));
            }
        }
        for (char c : source.toCharArray()) {
            need(c == '\n' || c >= 32 && c < 127, "rule 4: a sign of number " + (int) c);
        }
    }
}
