import java.io.IOException;
import java.util.ArrayList;
import java.util.List;
import java.util.function.Supplier;

/**
 * Tests of boundary cases: each names a promise and the words of the document that it holds the class to.
 * A refused call is always made on one of two objects that were made alike, and both are compared then.
 */
final class Edge {
    static final int NONE = -1, UNKNOWN = -2, OUTSIDE = -3, NOT = -4, FULL = -5;
    static final int LEAST = Integer.MIN_VALUE, MOST = Integer.MAX_VALUE;

    /** A call with one number that is tried out. */
    interface Ask {
        long of(LikestCase x, int number);
    }

    private final Check check = new Check();
    private final Document document;
    private final List<String> quotedOfTerms = new ArrayList<>();
    private final List<List<String>> quotedOfPromise = new ArrayList<>();
    private String named = "";
    private int answersOfThis = 1;

    Edge() throws IOException {
        document = new Document();
        for (int i = 0; i <= Document.PROMISES; i++) {
            quotedOfPromise.add(new ArrayList<>());
        }
        if (!document.isThere()) {
            System.out.println("there is no document: sentences are not looked up in it");
        }
    }

    /** The next answers are due by these words under the heading of that promise. */
    void promise(int number, String words) {
        name(number, words, document.promise(number));
        quotedOfPromise.get(number).add(words);
    }

    /** The next answers, of calls of that promise, are due by these words of the Terms. */
    void terms(int number, String words) {
        name(number, words, document.terms());
        quotedOfTerms.add(words);
    }

    /** The next answers, of calls of that promise, are due by these words of "What it is". */
    void whatItIs(int number, String words) {
        name(number, words, document.whatItIs());
    }

    private void name(int number, String words, String text) {
        endThis();
        named = "promise " + number + ", '" + words + "'";
        answersOfThis = 0;
        if (document.isThere()) {
            check.due(named + ": the document says so", text.contains(words));
        }
    }

    /** A sentence that is named and not tried out is no test. */
    private void endThis() {
        check.due(named + ": is tried out", answersOfThis > 0);
    }

    void due(String call, long got, long want) {
        answersOfThis++;
        check.due(named + ": " + call, got, want);
    }

    void dueFault(String text, int place) {
        dueFault(new LikestCase(), text, place);
    }

    void dueFault(LikestCase x, String text, int place) {
        x.erase();
        Check.tell(x, text);
        due("fault of \"" + text + "\"", x.fault(), place);
    }

    /** Each of these numbers is refused with that answer, and nothing changes by it. */
    void refused(String call, Supplier<LikestCase> maker, int answer, Ask ask, int... numbers) {
        for (int number : numbers) {
            LikestCase asked = maker.get();
            LikestCase twin = maker.get();
            due(call + " of " + number, ask.of(asked, number), answer);
            List<Long> tale = Tale.of(asked);
            due(call + " of " + number + " changes nothing", tale.equals(Tale.of(twin)) ? 1 : 0, 1);
        }
    }

    /** Each sentence of the Terms was named by a test; what the interface says ahead of calls is none. */
    void endOfTerms(String name) {
        endThis();
        for (String sentence : Document.sentences(document.terms())) {
            if (!sentence.startsWith("Ahead of the calls")) {
                check.due("Terms: a test names '" + sentence + "'", touches(quotedOfTerms, sentence));
            }
        }
        check.end(name);
    }

    /** Each sentence of each promise was named by a test. */
    void endOfPromises(String name) {
        endThis();
        for (int number = 1; number <= Document.PROMISES; number++) {
            for (String sentence : Document.sentences(document.promise(number))) {
                check.due("promise " + number + ": a test names '" + sentence + "'",
                        touches(quotedOfPromise.get(number), sentence));
            }
        }
        check.end(name);
    }

    private static boolean touches(List<String> quoted, String sentence) {
        for (String words : quoted) {
            if (sentence.contains(words) || words.contains(sentence)) {
                return true;
            }
        }
        return false;
    }
}
