import java.io.IOException;
import java.nio.charset.StandardCharsets;
import java.nio.file.Files;
import java.nio.file.Path;
import java.util.List;
import java.util.TreeSet;

/** Tests by the document's sentences: each has the number of its promise, the words of the sentence, and calls. */
final class Sentences {
    interface Calls {
        void on(SkyClocks x);
    }

    private static final int MOST_PRINTED = 100;

    private final String document = document();
    private final TreeSet<Integer> promises = new TreeSet<>();
    private String name = "";
    private int wrong = 0;
    private int tests = 0;

    /** The document in one line, so that a sentence is found wherever its lines end. */
    private static String document() {
        try {
            return Files.readString(Path.of("../shared/DOC.md"), StandardCharsets.UTF_8).replaceAll("\\s+", " ");
        } catch (IOException e) {
            System.out.println("the document is not found, so the words of sentences are not looked up: " + e);
            return "";
        }
    }

    /** One sentence's test, on a new object. */
    void test(int promise, String sentence, Calls calls) {
        tests++;
        promises.add(promise);
        name = "promise " + promise + ", \"" + sentence + "\"";
        if (!document.isEmpty() && !document.contains(sentence)) {
            wrong++;
            System.out.println(name + ": the document has no such words");
        }
        calls.on(new SkyClocks());
    }

    /** An answer of the sentence that is tested now. */
    void due(long got, long want) {
        if (got != want) {
            wrong++;
            if (wrong <= MOST_PRINTED) {
                System.out.println(name + ", " + place() + ": answered " + got + ", due is " + want);
            }
        }
    }

    private static String place() {
        StackTraceElement[] calls = new Throwable().getStackTrace();
        for (StackTraceElement call : calls) {
            if (!call.getClassName().equals("Sentences") && !call.getMethodName().equals("due") && !call.getMethodName().equals("holds")) {
                return call.getFileName() + " line " + call.getLineNumber();
            }
        }
        return "";
    }

    /** Ends the tests: exit code 1 if an answer was wrong, or a promise from first to last, but for some, has no test. */
    void end(int first, int last, Integer... butFor) {
        promises.addAll(List.of(butFor));
        for (int promise = first; promise <= last; promise++) {
            if (!promises.contains(promise)) {
                wrong++;
                System.out.println("promise " + promise + " has no test here");
            }
        }
        end();
    }

    /** Ends the tests: exit code 1 if an answer was wrong. */
    void end() {
        System.out.println(tests + " sentences: " + (wrong == 0 ? "all answers are as due" : wrong + " answers are not as due"));
        if (wrong != 0) {
            System.exit(1);
        }
    }
}
