import java.io.IOException;
import java.nio.charset.StandardCharsets;
import java.nio.file.DirectoryStream;
import java.nio.file.Files;
import java.nio.file.Path;
import java.util.ArrayList;
import java.util.List;
import java.util.regex.Matcher;
import java.util.regex.Pattern;

/**
 * No sentence of the document is without a test: each word of its terms stands in the words of some sentence that
 * is tested, and each word of a promise in those of a sentence that is tested by the promise's number.
 */
public final class EverySentenceTest {
    /** What the document says behind each promise's head: the call's form, which FaceTest looks at. */
    private static final Pattern PROMISE = Pattern.compile("(?s)## Promise (\\d+): [^\n]*\n\n`[^`]*`: (.*?)\n\n");
    private static final Pattern TEST = Pattern.compile("S\\.test\\((\\w+), ((?:\"[^\"]*\"[\\s+]*)+),");

    private static final Due DUE = new Due();

    /** The words that are tested by a promise's number; 0: by any. */
    private static List<String> tested(List<String> sources, int promise) {
        List<String> all = new ArrayList<>();
        for (String source : sources) {
            Matcher m = TEST.matcher(source);
            while (m.find()) {
                if (promise == 0 || m.group(1).equals("" + promise)) {
                    all.add(m.group(2).replaceAll("\"\\s*\\+\\s*\"", "").replace("\"", "").trim());
                }
            }
        }
        return all;
    }

    private static List<String> sources() throws IOException {
        List<String> all = new ArrayList<>();
        try (DirectoryStream<Path> files = Files.newDirectoryStream(Path.of("src/test/java"), "*Test.java")) {
            for (Path file : files) {
                all.add(Files.readString(file, StandardCharsets.UTF_8));
            }
        }
        return all;
    }

    /** Prints each run of words that stand in no tested sentence. */
    private static void allTested(String where, String text, List<String> tested) {
        char[] left = text.toCharArray();
        for (String words : tested) {
            for (int i = text.indexOf(words); i >= 0; i = text.indexOf(words, i + 1)) {
                for (int j = i; j < i + words.length(); j++) {
                    left[j] = '|';
                }
            }
        }
        for (String words : new String(left).split("\\|+")) {
            if (Pattern.compile("\\w").matcher(words).find()) {
                DUE.is(where + ": \"" + words.trim() + "\": words without a test", 1, 0);
            }
        }
    }

    private static String inOneLine(String text) {
        return text.replaceAll("\\s+", " ");
    }

    /** The terms without their marks, and without what the interface says, which FaceTest looks at. */
    private static String terms(String document) {
        String terms = document.substring(document.indexOf("## Terms"), document.indexOf("## Promise 1:"));
        return inOneLine(terms.replace("## Terms", "").replaceAll("(?m)^Ahead of the calls .*$", "")
                .replaceAll("==== \\d ", "").replaceAll("```(text)?", "|"));
    }

    public static void main(String[] args) throws IOException {
        String document = Files.readString(Path.of("../shared/DOC.md"), StandardCharsets.UTF_8);
        List<String> sources = sources();
        allTested("terms", terms(document), tested(sources, 0));
        Matcher m = PROMISE.matcher(document);
        int promises = 0;
        while (m.find()) {
            int promise = Integer.parseInt(m.group(1));
            allTested("promise " + promise, inOneLine(m.group(2)), tested(sources, promise));
            promises++;
        }
        DUE.is("promises that are looked at", promises, 30);
        DUE.end();
    }
}
