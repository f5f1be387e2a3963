import java.io.IOException;
import java.lang.reflect.Constructor;
import java.lang.reflect.Field;
import java.lang.reflect.Method;
import java.lang.reflect.Modifier;
import java.nio.charset.StandardCharsets;
import java.nio.file.Files;
import java.nio.file.Path;
import java.util.ArrayList;
import java.util.List;
import java.util.regex.Matcher;
import java.util.regex.Pattern;

/** "The public face", line by line as the document tells it, and what "the interface says" ahead of its calls. */
public final class FaceTest {
    private static final Due DUE = new Due();

    private static void holds(String what, boolean kept) {
        DUE.is(what, kept ? 0 : 1, 0);
    }

    private static Class<?> type(String word) {
        switch (word) {
            case "int": return int.class;
            case "long": return long.class;
            default: throw new IllegalArgumentException("no type of the face: " + word);
        }
    }

    /** The lines of the face, each told once and ended by a semicolon. */
    private static List<String> lines(String document) {
        Matcher block = Pattern.compile("(?s)```java\npublic final class SkyClocks \\{\n(.*?)\n\\}\n```").matcher(document);
        List<String> lines = new ArrayList<>();
        holds("the document tells no face", block.find());
        for (String line : block.group(1).split("\n")) {
            lines.add(line.trim());
        }
        return lines;
    }

    private static void constants(String told) throws IllegalAccessException, NoSuchFieldException {
        int many = 0;
        for (String constant : told.split(", ")) {
            String[] nameAndValue = constant.split(" = ");
            Field field = SkyClocks.class.getDeclaredField(nameAndValue[0]);
            holds(constant + " is no int", field.getType() == int.class);
            holds(constant + " is not public static final",
                    field.getModifiers() == (Modifier.PUBLIC | Modifier.STATIC | Modifier.FINAL));
            DUE.is(nameAndValue[0], field.getInt(null), Integer.parseInt(nameAndValue[1]));
            many++;
        }
        DUE.is("public constants", SkyClocks.class.getFields().length, many);
    }

    private static void call(String answer, String name, String parameters) throws NoSuchMethodException {
        String[] all = parameters.isEmpty() ? new String[0] : parameters.split(", ");
        Class<?>[] types = new Class<?>[all.length];
        for (int i = 0; i < all.length; i++) {
            types[i] = type(all[i].substring(0, all[i].indexOf(' ')));
        }
        Method method = SkyClocks.class.getDeclaredMethod(name, types);
        holds(name + " answers another type", method.getReturnType() == type(answer));
        holds(name + " is not public alone", method.getModifiers() == Modifier.PUBLIC);
    }

    private static void face(List<String> lines) throws ReflectiveOperationException {
        Pattern call = Pattern.compile("public (int|long) (\\w+)\\((.*)\\);");
        int calls = 0;
        int others = 0;
        for (String line : lines) {
            Matcher m = call.matcher(line);
            if (m.matches()) {
                call(m.group(1), m.group(2), m.group(3));
                calls++;
            } else if (line.startsWith("public static final int ")) {
                constants(line.substring("public static final int ".length(), line.length() - 1));
                others++;
            } else if (line.equals("public SkyClocks();")) {
                Constructor<?> made = SkyClocks.class.getDeclaredConstructor();
                holds("the constructor is not public", made.getModifiers() == Modifier.PUBLIC);
                others++;
            }
        }
        DUE.is("lines of the face that are looked at", calls + others, lines.size());
        int open = 0;
        for (Method method : SkyClocks.class.getDeclaredMethods()) {
            open += Modifier.isPrivate(method.getModifiers()) ? 0 : 1;
        }
        DUE.is("calls that are not private", open, calls);
        DUE.is("constructors", SkyClocks.class.getDeclaredConstructors().length, 1);
        holds("the class is not public and final", SkyClocks.class.getModifiers() == (Modifier.PUBLIC | Modifier.FINAL));
        holds("the class is in a package", SkyClocks.class.getPackageName().isEmpty());
        holds("the class has a class above it", SkyClocks.class.getSuperclass() == Object.class);
    }

    /** The names of the calls in the source, behind the remark that the interface says ahead of them. */
    private static List<String> callsBehind(String source, String remark) {
        List<String> names = new ArrayList<>();
        int from = source.indexOf("    // " + remark + "\n");
        holds("the source has no remark " + remark, from >= 0);
        if (from < 0) {
            return names;
        }
        int next = source.indexOf("    // ---- ", from + 1);
        Matcher m = Pattern.compile("\n    public (?:int|long) (\\w+)\\(").matcher(source.substring(from, next < 0 ? source.length() : next));
        while (m.find()) {
            names.add(m.group(1));
        }
        return names;
    }

    private static void remarks(String document, String source) {
        Matcher m = Pattern.compile("Ahead of the calls (.*?) the interface says: (---- .*?)\\.\n").matcher(document);
        int many = 0;
        while (m.find()) {
            List<String> wanted = List.of(m.group(1).replace("`", "").split(", "));
            holds("behind " + m.group(2) + " stand " + callsBehind(source, m.group(2)) + ", due are " + wanted,
                    callsBehind(source, m.group(2)).equals(wanted));
            many++;
        }
        DUE.is("remarks of the interface", many, 4);
    }

    public static void main(String[] args) throws IOException, ReflectiveOperationException {
        String document = Files.readString(Path.of("../shared/DOC.md"), StandardCharsets.UTF_8);
        face(lines(document));
        remarks(document, Files.readString(Path.of("src/main/java/SkyClocks.java"), StandardCharsets.UTF_8));
        DUE.end();
    }
}
