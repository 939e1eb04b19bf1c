import java.io.IOException;
import java.nio.file.Files;
import java.nio.file.Path;
import java.util.Set;
import java.util.TreeSet;

/** The sentence of the document that the answers which follow are due by, in its own words. */
final class Sentence {
    private static String document = "";
    private static final Set<Integer> promises = new TreeSet<>();
    private static String words = "";
    private static int answers = 1;

    private Sentence() {
    }

    /** A sentence of a promise: its words have to stand in the document under that promise. */
    static void of(int promise, String theWords) {
        String all = text();
        int from = all.indexOf("## Promise " + promise + ":");
        int to = all.indexOf("## ", from + 1);
        promises.add(promise);
        begin("promise " + promise + " \"" + theWords + "\"", from >= 0 && to > from && all.substring(from, to).contains(theWords));
    }

    /** A sentence from ahead of the promises. */
    static void ofTerms(String theWords) {
        String all = text();
        int to = all.indexOf("## Promise 1:");
        begin("terms \"" + theWords + "\"", to >= 0 && all.substring(0, to).contains(theWords));
    }

    private static void begin(String name, boolean stands) {
        Check.due("no answer was looked at for " + words, true, answers > 0);
        words = name;
        answers = 0;
        Check.due("in the document stands " + words, true, stands);
    }

    static void due(String what, long want, long got) {
        answers++;
        Check.due(words + ": " + what, want, got);
    }

    static void due(String what, boolean want, boolean got) {
        due(what, want ? 1 : 0, got ? 1 : 0);
    }

    /** Each promise from the first to the last has to have had a sentence. */
    static void haveBeen(int first, int last) {
        for (int promise = first; promise <= last; promise++) {
            Check.due("sentences of promise " + promise, true, promises.contains(promise));
        }
    }

    static void finish(String name) {
        Check.due("no answer was looked at for " + words, true, answers > 0);
        Check.finish(name);
    }

    private static String text() {
        if (document.isEmpty()) {
            try {
                document = Files.readString(Path.of("../shared/DOC.md")).replaceAll("\\s+", " ");
            } catch (IOException e) {
                Check.due("the document can be read: " + e, true, false);
                document = " ";
            }
        }
        return document;
    }
}
