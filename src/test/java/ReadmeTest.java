import java.io.IOException;
import java.lang.reflect.Method;
import java.lang.reflect.Modifier;
import java.nio.charset.StandardCharsets;
import java.nio.file.DirectoryStream;
import java.nio.file.Files;
import java.nio.file.Path;
import java.util.ArrayList;
import java.util.Arrays;
import java.util.HashMap;
import java.util.List;
import java.util.Map;
import java.util.TreeSet;
import java.util.regex.Matcher;
import java.util.regex.Pattern;

/** What README.md says is what the class does: its calls, its table of what is refused, and its list of tests. */
public final class ReadmeTest {
    private static final Due DUE = new Due();
    private static final Map<String, Method> CALLS = new HashMap<>();
    private static final Map<String, Integer> OTHERS = Map.of("FULL", SkyClocks.FULL, "NONE", SkyClocks.NONE, "SPENT", SkyClocks.SPENT);

    private static void holds(String what, boolean kept) {
        DUE.is(what, kept ? 0 : 1, 0);
    }

    private static long answer(SkyClocks x, Method call, long[] told) {
        Object[] all = new Object[told.length];
        for (int i = 0; i < told.length; i++) {
            all[i] = call.getParameterTypes()[i] == int.class ? (Object) (int) told[i] : (Object) told[i];
        }
        try {
            return ((Number) call.invoke(x, all)).longValue();
        } catch (ReflectiveOperationException e) {
            throw new IllegalStateException(call.getName() + " threw", e);
        }
    }

    private static long[] numbers(String told) {
        String[] words = told.isEmpty() ? new String[0] : told.split(", ");
        long[] all = new long[words.length];
        for (int i = 0; i < words.length; i++) {
            all[i] = Long.decode(words[i].replace("L", ""));
        }
        return all;
    }

    // ---- the calls

    /** Runs each block of calls; all calls of the face must be in them. */
    private static void calls(String readme) {
        Pattern line = Pattern.compile("x\\.(\\w+)\\((.*)\\); +// (-?\\d+)(:.*)?");
        TreeSet<String> missing = new TreeSet<>(CALLS.keySet());
        Matcher block = Pattern.compile("(?s)```java\n(.*?)```").matcher(readme);
        int blocks = 0;
        while (block.find()) {
            SkyClocks x = null;
            for (String told : block.group(1).split("\n")) {
                Matcher m = line.matcher(told);
                if (told.equals("SkyClocks x = new SkyClocks();")) {
                    x = new SkyClocks();
                } else if (m.matches()) {
                    DUE.is(told, answer(x, CALLS.get(m.group(1)), numbers(m.group(2))), Long.parseLong(m.group(3)));
                    missing.remove(m.group(1));
                } else {
                    holds("no call with its answer: " + told, false);
                }
            }
            blocks++;
        }
        DUE.is("blocks of calls", blocks, 5);
        holds("calls that are not shown: " + missing, missing.isEmpty());
    }

    // ---- the table of what is refused

    /** The numbers that may be told, least and greatest, of one row; one alone: no other may be told by this row. */
    private static long[][] ranges(String told) {
        String[] words = told.isEmpty() ? new String[0] : told.split(", ");
        long[][] all = new long[words.length][];
        for (int i = 0; i < words.length; i++) {
            String range = words[i].substring(words[i].indexOf(' ') + 1);
            String[] ends = range.split("\\.\\.");
            if (range.equals("any")) {
                all[i] = new long[] {Long.MIN_VALUE, Long.MAX_VALUE};
            } else if (!range.contains("..")) {
                all[i] = new long[] {Long.parseLong(range)};
            } else {
                all[i] = new long[] {Long.parseLong(ends[0]), ends.length < 2 ? Integer.MAX_VALUE : Long.parseLong(ends[1])};
            }
        }
        return all;
    }

    /** The names of what may be told are those of the document's face. */
    private static void sameNames(String call, String told, String document) {
        StringBuilder names = new StringBuilder();
        for (String word : told.isEmpty() ? new String[0] : told.split(", ")) {
            names.append(names.length() == 0 ? "" : ", ").append("(int|long) ").append(word, 0, word.indexOf(' '));
        }
        holds(call + " is told otherwise", Pattern.compile(" " + call + "\\(" + names + "\\);").matcher(document).find());
    }

    private static boolean mustDiffer(String call) {
        return List.of("hum", "shuffled", "between", "loop").contains(call);
    }

    private static boolean someAlike(long[] told) {
        return Arrays.stream(told).distinct().count() < told.length;
    }

    /** Numbers that may be told together. */
    private static long[] good(String call, long[][] ranges) {
        long[] all = new long[ranges.length];
        for (int i = 0; i < all.length; i++) {
            all[i] = ranges[i][0] + (mustDiffer(call) ? i : 0);
        }
        if (call.equals("ways")) {
            all[2] = ranges[2][1];
        }
        return all;
    }

    /** Beyond each end of a range a call is BAD; at the end it is not, but if it asks for numbers that differ. */
    private static void badByRanges(Method call, long[][] ranges, long bad) {
        String name = call.getName();
        for (int i = 0; i < ranges.length; i++) {
            for (int end = 0; end < ranges[i].length; end++) {
                long beyond = ranges[i][end] + (end == 0 ? -1 : 1);
                long[] told = good(name, ranges);
                if (ranges[i].length == 2 && call.getParameterTypes()[i] == int.class && beyond == (int) beyond) {
                    told[i] = beyond;
                    DUE.is(name + " told " + beyond + " as number " + i, answer(new SkyClocks(), call, told), bad);
                }
                told[i] = ranges[i][end];
                boolean isBad = answer(new SkyClocks(), call, told) == bad;
                holds(name + " told " + told[i] + " as number " + i, isBad == (mustDiffer(name) && someAlike(told)));
            }
        }
    }

    private static long leadingNumber(String cell) {
        Matcher m = Pattern.compile("^-\\d+").matcher(cell);
        holds("no number: " + cell, m.find());
        return Long.parseLong(m.group());
    }

    /** One row: its ranges, and on a new object its numbers for BAD and NO. */
    private static void refused(String[] cells, String document) {
        Method call = CALLS.get(cells[0]);
        holds("no call: " + cells[0], call != null);
        sameNames(cells[0], cells[1], document);
        long[][] ranges = ranges(cells[1]);
        holds(cells[0] + " has a BAD", cells[3].isEmpty() == (ranges.length == 0));
        if (!cells[3].isEmpty()) {
            badByRanges(call, ranges, leadingNumber(cells[3]));
        }
        if (!cells[4].isEmpty()) {
            DUE.is(cells[0] + " of a new object", answer(new SkyClocks(), call, good(cells[0], ranges)), leadingNumber(cells[4]));
        }
        if (!cells[5].isEmpty()) {
            String[] word = cells[5].substring(0, cells[5].indexOf(':')).split(" ");
            DUE.is(cells[0] + " " + word[0], OTHERS.get(word[0]), Long.parseLong(word[1]));
        }
    }

    private static void othersThanBad() {
        SkyClocks x = new SkyClocks();
        DUE.is("ways, low above high", x.ways(0, 100001, 100000), -1);
        DUE.is("look beyond 2000000", x.look(2000000, 1, 2, 0), -1);
        DUE.is("rule of another what", x.rule(-1, 0), -1);
        DUE.is("rule of another what", x.rule(2, 0), -1);
    }

    private static List<String[]> rows(String readme, String head) {
        List<String[]> rows = new ArrayList<>();
        int from = readme.indexOf(head);
        holds("no table " + head, from >= 0);
        String table = readme.substring(from, readme.indexOf("\n\n", from) + 1);
        for (String line : table.split("\n")) {
            if (!line.startsWith("| ---") && !line.equals(head)) {
                String[] cells = (line + " ").split("\\|", -1);
                String[] row = new String[cells.length - 2];
                for (int i = 0; i < row.length; i++) {
                    row[i] = cells[i + 1].trim();
                }
                rows.add(row);
            }
        }
        return rows;
    }

    private static void refusals(String readme, String document) {
        TreeSet<String> missing = new TreeSet<>(CALLS.keySet());
        for (String[] cells : rows(readme, "| call | what may be told | what it answers | BAD | NO | others |")) {
            refused(cells, document);
            missing.remove(cells[0]);
        }
        holds("calls that the table leaves out: " + missing, missing.isEmpty());
        othersThanBad();
    }

    // ---- the list of tests

    private static void tests(String readme) throws IOException {
        TreeSet<String> files = new TreeSet<>();
        try (DirectoryStream<Path> all = Files.newDirectoryStream(Path.of("src/test/java"), "*Test.java")) {
            for (Path file : all) {
                files.add(file.getFileName().toString().replace(".java", ""));
            }
        }
        TreeSet<String> told = new TreeSet<>();
        for (String[] cells : rows(readme, "| test | what it looks at |")) {
            told.add(cells[0]);
        }
        holds("tests there are " + files + ", told are " + told, files.equals(told));
    }

    public static void main(String[] args) throws IOException {
        for (Method call : SkyClocks.class.getDeclaredMethods()) {
            if (Modifier.isPublic(call.getModifiers())) {
                CALLS.put(call.getName(), call);
            }
        }
        String readme = Files.readString(Path.of("README.md"), StandardCharsets.UTF_8);
        calls(readme);
        refusals(readme, Files.readString(Path.of("../shared/DOC.md"), StandardCharsets.UTF_8));
        tests(readme);
        DUE.end();
    }
}
