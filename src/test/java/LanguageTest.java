import java.io.IOException;
import java.lang.reflect.Constructor;
import java.lang.reflect.Field;
import java.lang.reflect.Method;
import java.lang.reflect.Modifier;
import java.nio.file.Files;
import java.nio.file.Path;
import java.util.ArrayList;
import java.util.Arrays;
import java.util.List;
import java.util.TreeSet;
import java.util.regex.Pattern;

/** The face of the class, and those of LANGUAGE.md's rules that can be looked at from outside. */
public final class LanguageTest {
    private static final Check CHECK = new Check("LanguageTest");
    private static final String[] FACE = {
        "feed int int int int int int", "end boolean int", "board int", "fault int int", "has int int", "letter int int int",
        "square int int int int", "turn int int", "turned int", "set boolean int", "state int", "light int int int int",
        "lit int int", "sees int int", "step int int", "round int int", "rests int int", "drawn int int",
        "wish boolean int int", "met int", "fewest int boolean", "needed int int int", "shadow int int int",
        "darkest int int", "more int int", "solutions int int", "near int", "tint int int int", "swapped int int int int int",
        "reach int int int int", "behind int int", "rings int int", "steady int boolean", "slow int int", "back int",
        "image int", "octet int int", "on boolean",
    };
    private static final String[] FORBIDDEN = {
        "throw", "try", "catch", "synchronized", "assert", "->", "::", "while (true)", "for (;;)", "@Override", "import static",
        "Random", "currentTimeMillis", "nanoTime", "System.out", "hashCode", "Exact(", "Object",
    };

    public static void main(String[] args) throws IOException {
        face();
        nested();
        text();
        CHECK.finish();
    }

    private static void face() {
        List<String> found = new ArrayList<>();
        TreeSet<String> names = new TreeSet<>();
        List<String> hidden = new ArrayList<>();
        for (Method method : BeamBoard.class.getDeclaredMethods()) {
            if (Modifier.isPrivate(method.getModifiers())) {
                hidden.add(method.getName());
            } else {
                StringBuilder line = new StringBuilder(method.getName()).append(' ').append(method.getReturnType());
                for (Class<?> type : method.getParameterTypes()) {
                    line.append(' ').append(type);
                }
                found.add(line.toString());
                names.add(method.getName());
                CHECK.due(line + " is public and no static one", method.getModifiers(), Modifier.PUBLIC);
            }
        }
        CHECK.due("methods of the face", found.size(), FACE.length);
        for (String line : FACE) {
            CHECK.due(line, found.contains(line), true);
        }
        for (String name : hidden) {
            CHECK.due("a private method has a public one's name: " + name, names.contains(name), false);
        }
        for (Field field : BeamBoard.class.getDeclaredFields()) {
            boolean isPrivate = Modifier.isPrivate(field.getModifiers());
            CHECK.due(field.getName(), isPrivate, !field.getName().equals("NONE"));
            if (Modifier.isStatic(field.getModifiers())) {
                CHECK.due(field.getName() + " is final", Modifier.isFinal(field.getModifiers()), true);
                boolean isPlain = field.getType() == String.class || field.getType().toString().equals("int");
                CHECK.due(field.getName() + " is a constant", isPlain, true);
            }
        }
        Constructor<?>[] constructors = BeamBoard.class.getDeclaredConstructors();
        CHECK.due("constructors", constructors.length, 1);
        CHECK.due("the constructor is public", constructors[0].getModifiers(), Modifier.PUBLIC);
        CHECK.due("the constructor takes nothing", constructors[0].getParameterCount(), 0);
        CHECK.due("public and final", BeamBoard.class.getModifiers(), Modifier.PUBLIC | Modifier.FINAL);
    }

    private static void nested() {
        Class<?>[] classes = BeamBoard.class.getDeclaredClasses();
        CHECK.due("classes inside, eleven at most", classes.length <= 11, true);
        for (Class<?> inside : classes) {
            CHECK.due(inside.getName() + " is static", Modifier.isStatic(inside.getModifiers()), true);
            CHECK.due(inside.getName() + " is public", Modifier.isPublic(inside.getModifiers()), false);
            long fields = Arrays.stream(inside.getDeclaredFields()).filter(f -> !Modifier.isStatic(f.getModifiers())).count();
            CHECK.due(inside.getName() + " has " + fields + " fields, twenty at most", fields <= 20, true);
            for (Method method : inside.getDeclaredMethods()) {
                CHECK.due(method + " takes seven at most", method.getParameterCount() <= 7, true);
            }
        }
    }

    private static void text() throws IOException {
        List<String> lines = Files.readAllLines(Path.of("src/main/java/BeamBoard.java"));
        int methodStart = 0;
        for (int i = 0; i < lines.size(); i++) {
            String line = lines.get(i);
            String code = line.trim().startsWith("//") || line.trim().startsWith("*") || line.trim().startsWith("/**") ? "" : line;
            for (String word : FORBIDDEN) {
                CHECK.due("line " + (i + 1) + " has " + word, has(code, word), false);
            }
            CHECK.due("line " + (i + 1) + " joins texts by +", code.contains("\" +") || code.contains("+ \""), false);
            boolean isField = code.matches(" {4,8}(private |static )*(final )?[A-Za-z]+(\\[])? [a-zA-Z]+ = new [^;]+;");
            CHECK.due("line " + (i + 1) + " makes an object in a call", has(code, "new") && !isField, false);
            CHECK.due("line " + (i + 1) + " imports", code.startsWith("import") && !code.equals("import java.util.Arrays;"), false);
            if (code.endsWith(") {") && code.matches(" {4}(| {4})[a-zA-Z].*")) {
                methodStart = i;
            }
            if (code.matches(" {4}(| {4})}")) {
                CHECK.due("the method that ends in line " + (i + 1) + " is short", i - methodStart <= 62 || lines.get(methodStart).contains("class"), true);
                methodStart = i;
            }
        }
    }

    /** Whether the code has this piece of text; if it begins or ends with a letter, no letter must stand beside it. */
    private static boolean has(String code, String word) {
        String before = Character.isLetter(word.charAt(0)) ? "\\b" : "";
        String behind = Character.isLetter(word.charAt(word.length() - 1)) ? "\\b" : "";
        return Pattern.compile(before + Pattern.quote(word) + behind).matcher(code).find();
    }
}
