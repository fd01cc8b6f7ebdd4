import java.io.IOException;
import java.lang.reflect.Constructor;
import java.lang.reflect.Field;
import java.lang.reflect.Method;
import java.lang.reflect.Modifier;
import java.nio.file.Files;
import java.nio.file.Path;
import java.util.ArrayList;
import java.util.List;
import java.util.Set;
import java.util.TreeSet;
import java.util.regex.Matcher;
import java.util.regex.Pattern;

/** Rules of LANGUAGE.md that a look at the text, and at the class, can tell. */
public final class LanguageTest {
    private static final Check CHECK = new Check();
    private static final int MOST_LINES = 60;
    private static final int MOST_CLASSES = 12;
    private static final int MOST_PARAMETERS = 7;
    private static final int MOST_FIELDS = 20;
    private static final String[] NOT_IN_IT = {"->", "::", "\\bfinally\\b", "\\btry\\b", "\\bcatch\\b", "\\bsynchronized\\b",
        "\\bassert\\b", "\\binstanceof\\b", "\\bextends\\b", "\\bLong\\.", "\\bDouble\\b", "Exact\\(", "\"\\s*\\+", "\\+\\s*\"",
        "\\bSystem\\.(?!arraycopy)", "\\bString\\.", "\\bpackage\\b", "\\bThread\\b", "\\bObject\\b", "\\bvar\\b",
        "\\bstatic\\s*\\{", "\\bfor \\([^;]*:", "\\bdo\\b", "\\bMath\\.(?!min|max|abs|floorMod|floorDiv)"};

    private static void text(String source) {
        String code = source.replaceAll("//[^\n]*", "").replaceAll("(?s)/\\*.*?\\*/", "");
        for (String not : NOT_IN_IT) {
            Matcher m = Pattern.compile(not).matcher(code);
            CHECK.due(not + (m.find() ? " at " + code.substring(m.start(), Math.min(code.length(), m.start() + 40)) : ""),
                m.reset().find(), false);
        }
        Matcher imports = Pattern.compile("import ([^;]*);").matcher(code);
        while (imports.find()) {
            CHECK.due("import " + imports.group(1), Set.of("java.util.Arrays", "java.util.NoSuchElementException")
                .contains(imports.group(1)), true);
        }
        Matcher throwing = Pattern.compile("throw ([^(]*)").matcher(code);
        while (throwing.find()) {
            CHECK.due("throw " + throwing.group(1), Set.of("new IllegalArgumentException", "new NoSuchElementException")
                .contains(throwing.group(1)), true);
        }
        CHECK.due("signs of the text", source.chars().allMatch(c -> c == '\n' || c >= 32 && c < 127), true);
        methods(code);
    }

    /** A method's lines are those from its head to the brace that stands as deep. */
    private static void methods(String code) {
        String[] lines = code.split("\n");
        for (int i = 0; i < lines.length; i++) {
            String deep = lines[i].replaceAll("\\S.*", "");
            if (!lines[i].matches("\\s+.*\\) (throws .*)?\\{") || lines[i].matches("\\s*(\\} )?(if|else|for|while|switch).*")) {
                continue;
            }
            int end = i;
            while (end < lines.length && !lines[end].equals(deep + "}")) {
                end++;
            }
            CHECK.due("is short: " + lines[i].trim(), end - i < MOST_LINES, true);
        }
    }

    private static void classes() {
        List<Class<?>> all = new ArrayList<>(List.of(GivenMinutes.class.getDeclaredClasses()));
        CHECK.due("classes are few", all.size() < MOST_CLASSES, true);
        Set<String> face = new TreeSet<>();
        for (Method m : GivenMinutes.class.getDeclaredMethods()) {
            if (Modifier.isPublic(m.getModifiers())) {
                face.add(m.getName());
            }
        }
        CHECK.due("names of the face", face.size(), 40);
        for (Class<?> c : all) {
            CHECK.due(c + " is private and static", Modifier.isPrivate(c.getModifiers()) && Modifier.isStatic(c.getModifiers()), true);
        }
        all.add(GivenMinutes.class);
        for (Class<?> c : all) {
            int fields = 0;
            for (Field f : c.getDeclaredFields()) {
                boolean isStatic = Modifier.isStatic(f.getModifiers());
                fields += isStatic ? 0 : 1;
                CHECK.due(f + " is a constant, or of the object", !isStatic || Modifier.isFinal(f.getModifiers()), true);
            }
            CHECK.due(c + " has few fields", fields <= MOST_FIELDS, true);
            for (Method m : c.getDeclaredMethods()) {
                boolean isOfFace = c == GivenMinutes.class && Modifier.isPublic(m.getModifiers());
                CHECK.due(m + " bears a name of its own", isOfFace || !face.contains(m.getName()), true);
                CHECK.due(m + " takes few", m.getParameterCount() <= MOST_PARAMETERS, true);
            }
        }
        members();
    }

    private static void members() {
        for (Method m : GivenMinutes.class.getDeclaredMethods()) {
            CHECK.due(m + " is public or private", Modifier.isPublic(m.getModifiers()) || Modifier.isPrivate(m.getModifiers()), true);
        }
        for (Field f : GivenMinutes.class.getDeclaredFields()) {
            CHECK.due(f + " is private but NONE", Modifier.isPrivate(f.getModifiers()) != f.getName().equals("NONE"), true);
        }
        for (Constructor<?> c : GivenMinutes.class.getDeclaredConstructors()) {
            CHECK.due(c + " is public, and takes none", Modifier.isPublic(c.getModifiers()) && c.getParameterCount() == 0, true);
        }
        CHECK.due("public and final", GivenMinutes.class.getModifiers(), Modifier.PUBLIC | Modifier.FINAL);
    }

    public static void main(String[] args) throws IOException {
        text(Files.readString(Path.of("src/main/java/GivenMinutes.java")));
        classes();
        CHECK.end();
    }
}
