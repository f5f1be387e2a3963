import java.io.IOException;
import java.lang.reflect.Field;
import java.lang.reflect.Method;
import java.lang.reflect.Modifier;
import java.nio.file.Files;
import java.nio.file.Path;
import java.util.HashSet;
import java.util.List;
import java.util.Set;
import java.util.regex.Matcher;
import java.util.regex.Pattern;

/** What can be seen from outside of the rules of LANGUAGE.md that bind src/main/java/SkyClocks.java. */
public final class LanguageTest {
    private static final Due DUE = new Due();
    private static final String[] FACE = {"arrival 5", "clear 1", "offset 2", "shift 3", "rule 2", "at 3", "many 1", "write 2",
        "wipe 0", "fault 0", "model 1", "comes 2", "residue 2", "turn 2", "ways 3", "way 2", "sure 1", "fit 2", "left 2",
        "look 4", "slip 1", "falseShare 1", "hum 2", "shuffled 2", "between 2", "loop 3", "moved 1", "alarm 1", "count 1"};
    private static final String[] NOT_ALLOWED = {"\\bthrow\\b", "\\bthrows\\b", "\\btry\\b", "\\bcatch\\b", "\\bfinally\\b",
        "\\bsynchronized\\b", "\\bassert\\b", "->", "::", "\\bimport\\b", "\\bdouble\\b", "\\bfloat\\b", "Exact\\b", "\\bSystem\\.(?!arraycopy)",
        "\\bArrays\\b", "\\bObject\\b", "\\bequals\\b", "\\bhashCode\\b", "\\btoString\\b", "\\bstatic\\s*\\{", "@", "\\bThread\\b",
        "\\bString\\b", "\"", "\\bMath\\.(?!(abs|max|min|floorDiv|floorMod)\\b)", "\\bwhile\\s*\\(\\s*true", "\\bfor\\s*\\(\\s*;"};

    private static void rule(String what, boolean kept) {
        DUE.is(what, kept ? 0 : 1, 0);
    }

    private static String withoutRemarks(String source) {
        return source.replaceAll("(?s)/\\*.*?\\*/", " ").replaceAll("//[^\n]*", " ");
    }

    private static void words(String source) {
        String plain = withoutRemarks(source);
        for (String word : NOT_ALLOWED) {
            Matcher m = Pattern.compile(word).matcher(plain);
            rule("not allowed: " + word, !m.find());
        }
    }

    /** No method is longer than 60 lines: from a line that opens one to the next brace as far in. */
    private static void lengths(List<String> lines) {
        Pattern opens = Pattern.compile("^( {4}| {8})[a-zA-Z].*\\) \\{$");
        for (int i = 0; i < lines.size(); i++) {
            Matcher m = opens.matcher(lines.get(i));
            if (m.matches()) {
                int end = i;
                while (end < lines.size() - 1 && !lines.get(end).equals(m.group(1) + "}")) {
                    end++;
                }
                rule("longer than 60 lines: " + lines.get(i), end - i <= 60);
            }
        }
    }

    private static void face() {
        Class<?> c = SkyClocks.class;
        rule("public and final", Modifier.isPublic(c.getModifiers()) && Modifier.isFinal(c.getModifiers()));
        rule("one constructor", c.getDeclaredConstructors().length == 1 && c.getConstructors().length == 1);
        Set<String> wanted = new HashSet<>(List.of(FACE));
        Set<String> names = new HashSet<>();
        for (String f : FACE) names.add(f.substring(0, f.indexOf(' ')));
        for (Method m : c.getDeclaredMethods()) {
            if (Modifier.isPublic(m.getModifiers())) {
                rule("not of the face: " + m, wanted.remove(m.getName() + " " + m.getParameterCount()));
            } else {
                rule("neither public nor private: " + m, Modifier.isPrivate(m.getModifiers()));
                rule("bears the name of a public one: " + m, !names.contains(m.getName()));
            }
        }
        rule("missing: " + wanted, wanted.isEmpty());
        Set<String> constants = new HashSet<>(List.of("BAD", "NO", "FULL", "NONE", "SPENT"));
        for (Field f : c.getDeclaredFields()) {
            rule("neither a constant of the face nor private: " + f, Modifier.isPrivate(f.getModifiers()) || constants.contains(f.getName()));
        }
    }

    private static void inside(Class<?> c) {
        int fields = 0;
        for (Field f : c.getDeclaredFields()) {
            if (Modifier.isStatic(f.getModifiers())) {
                rule("static, not final: " + f, Modifier.isFinal(f.getModifiers()));
            } else {
                fields++;
            }
        }
        rule("more than 20 fields: " + c, fields <= 20);
        for (Method m : c.getDeclaredMethods()) {
            rule("more than 7 parameters: " + m, m.getParameterCount() <= 7);
        }
        for (Class<?> d : c.getDeclaredClasses()) {
            rule("not static: " + d, Modifier.isStatic(d.getModifiers()));
            rule("public: " + d, !Modifier.isPublic(d.getModifiers()));
            inside(d);
        }
    }

    public static void main(String[] args) throws IOException {
        Path source = Path.of("src/main/java/SkyClocks.java");
        words(Files.readString(source));
        lengths(Files.readAllLines(source));
        face();
        inside(SkyClocks.class);
        rule("more than 12 classes", SkyClocks.class.getDeclaredClasses().length <= 11);
        DUE.end();
    }
}
