import java.io.IOException;
import java.lang.reflect.Field;
import java.lang.reflect.Method;
import java.lang.reflect.Modifier;
import java.nio.file.Files;
import java.nio.file.Path;
import java.util.HashSet;
import java.util.List;
import java.util.Set;
import java.util.regex.Matcher;
import java.util.regex.Pattern;

/** What can be seen from outside of the rules of LANGUAGE.md that bind src/main/java/SkyClocks.java. */
public final class LanguageTest {
    private static final Due DUE = new Due();
    private static final String[] NOT_ALLOWED = {"\\bthrow\\b", "\\bthrows\\b", "\\btry\\b", "\\bcatch\\b", "\\bfinally\\b",
        "\\bsynchronized\\b", "\\bassert\\b", "->", "::", "\\bimport\\b", "\\bdouble\\b", "\\bfloat\\b", "Exact\\b", "\\bSystem\\.(?!arraycopy)",
        "\\bArrays\\b", "\\bObject\\b", "\\bequals\\b", "\\bhashCode\\b", "\\btoString\\b", "\\bstatic\\s*\\{", "@", "\\bThread\\b",
        "\\bString\\b", "\"", "\\bMath\\.(?!(abs|max|min|floorDiv|floorMod)\\b)", "\\bwhile\\s*\\(\\s*true", "\\bfor\\s*\\(\\s*;"};

    private static void rule(String what, boolean kept) {
        DUE.is(what, kept ? 0 : 1, 0);
    }

    private static String withoutRemarks(String source) {
        return source.replaceAll("(?s)/\\*.*?\\*/", " ").replaceAll("//[^\n]*", " ");
    }

    private static void words(String source) {
        String plain = withoutRemarks(source);
        for (String word : NOT_ALLOWED) {
            Matcher m = Pattern.compile(word).matcher(plain);
            rule("not allowed: " + word, !m.find());
        }
    }

    /** No method is longer than 60 lines: from a line that opens one to the next brace as far in. */
    private static void lengths(List<String> lines) {
        Pattern opens = Pattern.compile("^( {4}| {8})[a-zA-Z].*\\) \\{$");
        for (int i = 0; i < lines.size(); i++) {
            Matcher m = opens.matcher(lines.get(i));
            if (m.matches()) {
                int end = i;
                while (end < lines.size() - 1 && !lines.get(end).equals(m.group(1) + "}")) {
                    end++;
                }
                rule("longer than 60 lines: " + lines.get(i), end - i <= 60);
            }
        }
    }

    /** No member but those of the face, which FaceTest looks at, can be seen, and no private method bears the name of one. */
    private static void members(Class<?> c) {
        Set<String> names = new HashSet<>();
        for (Method m : c.getMethods()) {
            names.add(m.getName());
        }
        for (Method m : c.getDeclaredMethods()) {
            if (!Modifier.isPublic(m.getModifiers())) {
                rule("neither public nor private: " + m, Modifier.isPrivate(m.getModifiers()));
                rule("bears the name of a public one: " + m, !names.contains(m.getName()));
            }
        }
        for (Field f : c.getDeclaredFields()) {
            rule("neither public nor private: " + f, Modifier.isPublic(f.getModifiers()) || Modifier.isPrivate(f.getModifiers()));
        }
    }

    private static void inside(Class<?> c) {
        int fields = 0;
        for (Field f : c.getDeclaredFields()) {
            if (Modifier.isStatic(f.getModifiers())) {
                rule("static, not final: " + f, Modifier.isFinal(f.getModifiers()));
            } else {
                fields++;
            }
        }
        rule("more than 20 fields: " + c, fields <= 20);
        for (Method m : c.getDeclaredMethods()) {
            rule("more than 7 parameters: " + m, m.getParameterCount() <= 7);
        }
        for (Class<?> d : c.getDeclaredClasses()) {
            rule("not static: " + d, Modifier.isStatic(d.getModifiers()));
            rule("public: " + d, !Modifier.isPublic(d.getModifiers()));
            inside(d);
        }
    }

    public static void main(String[] args) throws IOException {
        Path source = Path.of("src/main/java/SkyClocks.java");
        words(Files.readString(source));
        lengths(Files.readAllLines(source));
        members(SkyClocks.class);
        inside(SkyClocks.class);
        rule("more than 12 classes", SkyClocks.class.getDeclaredClasses().length <= 11);
        DUE.end();
    }
}
