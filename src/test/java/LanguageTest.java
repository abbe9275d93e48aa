import java.io.IOException;
import java.lang.reflect.Array;
import java.lang.reflect.Constructor;
import java.lang.reflect.Field;
import java.lang.reflect.Method;
import java.lang.reflect.Modifier;
import java.nio.file.Files;
import java.nio.file.Path;
import java.util.Arrays;
import java.util.IdentityHashMap;
import java.util.Map;
import java.util.Set;
import java.util.TreeSet;
import java.util.regex.Matcher;
import java.util.regex.Pattern;

/** The face, what LANGUAGE.md forbids as far as a search finds it, and the room that a run takes. */
public final class LanguageTest {
    private static final Checks CHECKS = new Checks();
    private static final Path SOURCE = Path.of("src/main/java/ThinStrokes.java");
    private static final Set<String> FACE = new TreeSet<>(Arrays.asList(
            "ThinStrokes(int,int)", "int NONE",
            "boolean put(int,int,boolean) IndexOutOfBoundsException",
            "int thin()",
            "boolean at(int,int) IndexOutOfBoundsException",
            "int prune(int) IllegalStateException IllegalArgumentException",
            "int strokes() IllegalStateException",
            "int points(int) IllegalStateException IndexOutOfBoundsException",
            "int place(int,int,int) IllegalStateException IndexOutOfBoundsException",
            "long distance2(int,int) IndexOutOfBoundsException",
            "int crossing(int,int) IllegalStateException IndexOutOfBoundsException IllegalArgumentException",
            "int joined(int) IllegalStateException IndexOutOfBoundsException",
            "int parts()", "int holes()", "int draw() IllegalStateException",
            "int told(int)", "void clear()"));
    private static final String[] FORBIDDEN = {
        "import ", "->", "::", "try", "catch", "finally", "synchronized", "assert ", "double", "float",
        "static \\{", "System\\.", "Random", "instanceof", "Exact\\(", "\\bpackage ", " / ", " % ",
        "protected", "while \\(true\\)", "for \\(;;\\)", "String", "Object"};

    public static void main(String[] args) throws IOException, IllegalAccessException {
        faceIsThatOfTheDocument();
        sourceKeepsToTheRules(code());
        methodsAreShort(code());
        roomIsEnoughForARun();
        CHECKS.end("LanguageTest");
    }

    private static String code() throws IOException {
        String text = Files.readString(SOURCE);
        return text.replaceAll("(?s)/\\*.*?\\*/", "").replaceAll("//[^\n]*", "")
                .replaceAll("\"[^\"\n]*\"", "TEXT");
    }

    private static void faceIsThatOfTheDocument() {
        Set<String> found = new TreeSet<>();
        Set<String> publicNames = new TreeSet<>();
        Set<String> privateNames = new TreeSet<>();
        for (Constructor<?> c : ThinStrokes.class.getDeclaredConstructors()) {
            found.add("ThinStrokes" + typesOf(c.getParameterTypes()));
        }
        for (Field f : ThinStrokes.class.getDeclaredFields()) {
            if (!Modifier.isPrivate(f.getModifiers())) {
                found.add(f.getType().getSimpleName() + " " + f.getName());
            }
        }
        for (Method m : ThinStrokes.class.getDeclaredMethods()) {
            boolean hidden = Modifier.isPrivate(m.getModifiers());
            (hidden ? privateNames : publicNames).add(m.getName());
            if (!hidden) {
                StringBuilder line = new StringBuilder(m.getReturnType().getSimpleName());
                line.append(' ').append(m.getName()).append(typesOf(m.getParameterTypes()));
                for (Class<?> e : m.getExceptionTypes()) {
                    line.append(' ').append(e.getSimpleName());
                }
                found.add(line.toString());
            }
        }
        CHECKS.due("the face", found, FACE);
        CHECKS.due("public and final", ThinStrokes.class.getModifiers(), Modifier.PUBLIC | Modifier.FINAL);
        privateNames.retainAll(publicNames);
        CHECKS.due("private methods with a public name", privateNames.toString(), "[]");
        CHECKS.due("NONE", ThinStrokes.NONE, -1);
    }

    private static String typesOf(Class<?>[] types) {
        StringBuilder line = new StringBuilder("(");
        for (Class<?> type : types) {
            line.append(line.length() == 1 ? "" : ",").append(type.getSimpleName());
        }
        return line.append(')').toString();
    }

    private static void sourceKeepsToTheRules(String code) {
        for (String word : FORBIDDEN) {
            CHECKS.due("the source has " + word, Pattern.compile(word).matcher(code).find(), false);
        }
        Matcher made = Pattern.compile("(\\S+ \\S+) new ([A-Za-z]+)([(\\[])").matcher(code);
        while (made.find()) {
            boolean exception = made.group(2).endsWith("Exception");
            // In constructors alone: a field gets what is made, and fields so set are final.
            boolean field = made.group(1).endsWith(" =");
            CHECKS.due("made by a call: " + made.group(), exception || field, true);
        }
        int arrays = code.split("new int\\[").length - 1;
        int finals = code.split("private final int\\[\\]").length - 1;
        CHECKS.due("each array is made once, for a final field", arrays, finals);
    }

    private static void methodsAreShort(String code) {
        Matcher method = Pattern.compile("(?m)^( +)[A-Za-z][A-Za-z ]* \\w+\\([^;{]*\\{\n(?s:(.*?))\n\\1\\}")
                .matcher(code);
        int count = 0;
        while (method.find()) {
            count++;
            CHECKS.due("short: " + method.group().trim().split("\n")[0],
                    method.group().split("\n").length <= 60, true);
        }
        CHECKS.due("methods were found", count > 40, true);
    }

    /** A run of 512 calls that were all constructors of the largest picture. */
    private static void roomIsEnoughForARun() throws IllegalAccessException {
        Map<Object, Integer> room = new IdentityHashMap<>();
        enter(new ThinStrokes(24, 24), room);
        long fields = room.values().stream().mapToLong(Integer::longValue).sum();
        CHECKS.due("objects: " + room.size(), room.size() * 512L < 600_000, true);
        CHECKS.due("fields and elements: " + fields, fields * 512 < 7_300_000, true);
    }

    private static void enter(Object o, Map<Object, Integer> room) throws IllegalAccessException {
        if (o == null || room.containsKey(o)) {
            return;
        }
        if (o.getClass().isArray()) {
            room.put(o, Array.getLength(o));
            return;
        }
        room.put(o, 0);
        for (Field f : o.getClass().getDeclaredFields()) {
            if (Modifier.isStatic(f.getModifiers())) {
                continue;
            }
            room.merge(o, 1, Integer::sum);
            if (!f.getType().isPrimitive()) {
                f.setAccessible(true);
                enter(f.get(o), room);
            }
        }
    }
}
