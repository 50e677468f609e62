import java.io.IOException;
import java.nio.file.Files;
import java.nio.file.Path;
import java.util.function.Predicate;
import java.util.function.ToIntFunction;

/**
 * Tests of the document's sentences: each says where its sentence stands (the Terms, or a promise by its number) and
 * how it goes, word for word; the answers looked at from then on are that sentence's. At the end no word of the Terms
 * and of the promises may be left without a test.
 */
final class Sentences {
    private static final int PROMISES = 38;

    private final Check check = new Check();
    private final String doc;
    private final boolean[] said;
    private String latest = "";
    private int askedOfLatest;
    private int many;

    Sentences(Path path) throws IOException {
        doc = Files.readString(path).replaceAll("\\s+", " ");
        said = new boolean[doc.length()];
    }

    void says(String where, String sentence) {
        endLatest();
        many++;
        latest = where + ", '" + sentence + "'";
        int end = endOf(where);
        int from = doc.indexOf(sentence, startOf(where));
        if (from < 0 || from + sentence.length() > end) {
            check.fail("the document does not say: " + latest);
            return;
        }
        for (int i = from; i < from + sentence.length(); i++) {
            said[i] = true;
        }
    }

    void due(String call, long got, long want) {
        askedOfLatest++;
        check.due(latest + ": " + call, got, want);
    }

    void due(String call, boolean got, boolean want) {
        due(call, got ? 1 : 0, want ? 1 : 0);
    }

    /** The answer is due, and nothing that can be seen is changed by the call. */
    void still(String call, RatSorters x, int want, ToIntFunction<RatSorters> asked) {
        String before = seen(x);
        due(call, asked.applyAsInt(x), want);
        if (!seen(x).equals(before)) {
            check.fail(latest + ": " + call + " changed " + before + " to " + seen(x));
        }
    }

    /** The call answers false, and changes nothing that can be seen. */
    void refused(String call, RatSorters x, Predicate<RatSorters> asked) {
        still(call, x, 0, y -> asked.test(y) ? 1 : 0);
    }

    /** The call answers NONE, and changes nothing that can be seen. */
    void none(String call, RatSorters x, ToIntFunction<RatSorters> asked) {
        still(call, x, RatSorters.NONE, asked);
    }

    /** All that can be seen of an object without changing it, but for what would be. */
    static String seen(RatSorters x) {
        StringBuilder b = new StringBuilder();
        for (int what = 0; what <= 15; what++) {
            b.append(x.count(what)).append(what < 15 ? ' ' : ';');
        }
        for (int grain = 0; grain < x.count(0); grain++) {
            b.append(" heap ").append(x.heap(grain));
            for (int hole = 0; hole < x.count(1); hole++) {
                b.append(' ').append(x.hole(hole, grain));
            }
        }
        for (int rat = 0; rat < x.count(2); rat++) {
            b.append(" rat");
            for (int what = 0; what <= 8; what++) {
                b.append(' ').append(x.rat(rat, what));
            }
        }
        return b.append(" place ").append(x.place()).toString();
    }

    void end(String name) {
        endLatest();
        lookForUnsaid("Terms");
        for (int promise = 1; promise <= PROMISES; promise++) {
            lookForUnsaid("Promise " + promise);
        }
        check.end(many + " " + name);
    }

    private void endLatest() {
        if (!latest.isEmpty() && askedOfLatest == 0) {
            check.fail("nothing was asked of: " + latest);
        }
        askedOfLatest = 0;
    }

    private int startOf(String where) {
        int heading = doc.indexOf("## " + where + (where.equals("Terms") ? " " : ":"));
        if (heading < 0) {
            throw new IllegalArgumentException("no such heading: " + where);
        }
        // A promise's words begin behind its heading and the call's form in the code's quotes.
        return where.equals("Terms") ? heading + 8 : doc.indexOf("`:", heading) + 2;
    }

    private int endOf(String where) {
        int next = doc.indexOf("## ", startOf(where));
        return next < 0 ? doc.length() : next;
    }

    private void lookForUnsaid(String where) {
        String[] marks = {"```text", "==== II.", "==== III.", "==== IV."};
        int end = endOf(where);
        for (int i = startOf(where); i < end; i++) {
            for (String mark : marks) {
                i += doc.startsWith(mark, i) ? mark.length() : 0;
            }
            if (!said[i] && Character.isLetterOrDigit(doc.charAt(i))) {
                check.fail(where + ": no test says '" + doc.substring(i, Math.min(end, i + 60)) + "'");
                return;
            }
        }
    }
}
