import java.io.IOException;
import java.lang.reflect.Constructor;
import java.lang.reflect.Field;
import java.lang.reflect.Method;
import java.lang.reflect.Modifier;
import java.nio.file.Files;
import java.nio.file.Path;
import java.util.Set;
import java.util.TreeSet;
import java.util.regex.Matcher;
import java.util.regex.Pattern;

/** The face of SwissRounds against ../shared/DOC.md, and what of ../shared/LANGUAGE.md the text of the source shows. */
public final class FaceTest {
    private static final Path SOURCE = Path.of("src/main/java/SwissRounds.java");
    private static final Path DOCUMENT = Path.of("../shared/DOC.md");
    private static final String[] FORBIDDEN = {"throw", "throws", "try", "catch", "finally", "synchronized", "assert", "import",
        "package", "protected", "->", "::", "equals", "hashCode", "toString", "Random", "System.nanoTime", "Thread", "Object"};
    private static int wrong = 0;

    private static void due(String what, Object got, Object want) {
        if (!got.equals(want)) {
            wrong++;
            System.out.println(what + ": " + got + ", due is " + want);
        }
    }

    private static Set<String> documented(String text) {
        Set<String> names = new TreeSet<>();
        Matcher m = Pattern.compile("(?m)^    public (int \\w+\\([^)]*\\));").matcher(text);
        while (m.find()) {
            names.add(m.group(1).replaceAll("int (\\w+)(?=[,)])", "int"));
        }
        return names;
    }

    private static Set<String> declared() {
        Set<String> names = new TreeSet<>();
        for (Method m : SwissRounds.class.getDeclaredMethods()) {
            if (!Modifier.isPrivate(m.getModifiers())) {
                String parameters = "int, ".repeat(m.getParameterCount());
                names.add(m.getReturnType() + " " + m.getName() + "(" + parameters.replaceAll(", $", "") + ")");
            }
        }
        return names;
    }

    private static void checkMembers() {
        due("the class's modifiers", SwissRounds.class.getModifiers(), Modifier.PUBLIC | Modifier.FINAL);
        Set<String> constants = new TreeSet<>();
        for (Field f : SwissRounds.class.getDeclaredFields()) {
            if (!Modifier.isPrivate(f.getModifiers())) {
                constants.add(f.getName());
            }
        }
        due("constants", constants, new TreeSet<>(Set.of("NONE", "BAD", "STATE", "FULL")));
        Constructor<?>[] constructors = SwissRounds.class.getDeclaredConstructors();
        due("constructors", constructors.length, 1);
        due("the constructor's modifiers", constructors[0].getModifiers(), Modifier.PUBLIC);
        for (Class<?> inside : SwissRounds.class.getDeclaredClasses()) {
            due(inside + " is static", Modifier.isStatic(inside.getModifiers()), true);
            checkStatics(inside);
        }
        checkStatics(SwissRounds.class);
    }

    private static void checkStatics(Class<?> type) {
        Set<String> face = new TreeSet<>();
        for (Method m : SwissRounds.class.getDeclaredMethods()) {
            if (Modifier.isPublic(m.getModifiers())) {
                face.add(m.getName());
            }
        }
        for (Method m : type.getDeclaredMethods()) {
            due(m + " has no name of the face", !Modifier.isPublic(m.getModifiers()) && face.contains(m.getName()), false);
            due(m + " takes at most seven", m.getParameterCount() <= 7, true);
        }
        for (Field f : type.getDeclaredFields()) {
            due(f + " is final if it is static", Modifier.isStatic(f.getModifiers()) && !Modifier.isFinal(f.getModifiers()), false);
        }
    }

    private static void checkWords(String source) {
        String code = source.replaceAll("(?s)/\\*.*?\\*/", " ").replaceAll("//.*", " ").replaceAll("\"[^\"]*\"", "\"\"");
        for (String word : FORBIDDEN) {
            boolean isWord = Character.isLetter(word.charAt(0));
            String pattern = isWord ? "\\b" + Pattern.quote(word) + "\\b" : Pattern.quote(word);
            due("'" + word + "' in the source", Pattern.compile(pattern).matcher(code).find(), false);
        }
    }

    public static void main(String[] args) throws IOException {
        due("methods", declared(), documented(Files.readString(DOCUMENT)));
        checkMembers();
        checkWords(Files.readString(SOURCE));
        System.out.println(wrong == 0 ? "FaceTest: the face is as due" : "FaceTest: " + wrong + " faults");
        if (wrong != 0) {
            System.exit(1);
        }
    }
}
