import java.io.IOException;
import java.util.List;

/** Tests of edges: each is of a sentence of the document, told in its own words, by which it can be found there. */
final class Edges {
    interface Call {
        long on(OnlyLent x);
    }

    interface Made {
        OnlyLent lent();
    }

    static final int NONE = OnlyLent.NONE;
    static final int VOID = OnlyLent.VOID;
    static final int LEAST = Integer.MIN_VALUE;
    static final int MOST = Integer.MAX_VALUE;

    private final Check check = new Check("EdgesTest");
    private final Document document;
    private String sentence = "";

    Edges() throws IOException {
        document = new Document();
        check.due("headings of the document", document.headings() > 42, true);
    }

    /** What follows is of this sentence, as it stands under the heading. */
    void of(String heading, String words) {
        sentence = heading + ", \"" + words + "\"";
        check.due(sentence + " stands in the document", document.quotes(heading, words), true);
    }

    void due(String call, long got, long due) {
        check.due(sentence + ": " + call, got, due);
    }

    void due(String call, boolean got, boolean due) {
        check.due(sentence + ": " + call, got, due);
    }

    /** How often an object has refused, for its reasons 0, 1 and 2. */
    void statuses(OnlyLent x, int noSuch, int noRoom, int notSo) {
        due("status(0)", x.status(0), noSuch);
        due("status(1)", x.status(1), noRoom);
        due("status(2)", x.status(2), notSo);
    }

    /** A call that is refused: its answer, the reason by which it counts, and that it leaves all else as it was. */
    void refuses(String name, Made made, Call call, long answer, int reason) {
        OnlyLent asked = made.lent();
        int[] ahead = {asked.status(0), asked.status(1), asked.status(2)};
        due(name, call.on(asked), answer);
        for (int r = 0; r < 3; r++) {
            due(name + " counted by reason " + r, asked.status(r) - ahead[r], r == reason ? 1 : 0);
        }
        same(name, Answers.of(made.lent()), Answers.of(asked));
    }

    /** A call that only asks: its answer, that it is not counted as refused, and that it leaves all as it was. */
    void asks(String name, Made made, Call call, long answer) {
        refuses(name, made, call, answer, NONE);
    }

    void same(String name, List<String> due, List<String> got) {
        due(name + " leaves as many answers", got.size(), due.size());
        for (int i = 0; i < due.size() && i < got.size(); i++) {
            due(name + " leaves " + due.get(i) + ", not " + got.get(i), got.get(i).equals(due.get(i)), true);
        }
    }

    void finish() {
        for (String run : document.unquoted()) {
            check.due("no test is of: " + run, false, true);
        }
        check.finish();
    }
}
