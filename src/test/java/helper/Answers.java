import java.util.ArrayList;
import java.util.List;

/** All that an object holds, asked call by call (some 300 calls for a small land), so that two can be held against each other. */
final class Answers {
    private final OnlyLent x;
    private final List<String> rows = new ArrayList<>();

    private Answers(OnlyLent x) {
        this.x = x;
    }

    /** The answers of an object; it goes on from its images and takes its text as a land, so it is of no use behind that. */
    static List<String> of(OnlyLent x) {
        Answers answers = new Answers(x);
        answers.land();
        answers.held();
        answers.found();
        for (int k = 0; k < 3; k++) {
            answers.add("on " + k, x.on(k) ? 1 : 0);
            answers.held();
        }
        answers.add("land", x.land());
        answers.land();
        return answers.rows;
    }

    /** What an object answers when it is asked alone (some 200 calls for a large land). */
    static List<String> asked(OnlyLent x) {
        Answers answers = new Answers(x);
        answers.land();
        answers.held();
        answers.found();
        answers.more();
        return answers.rows;
    }

    /** The answers of an object but for its images (some 400 calls at most). */
    static List<String> ofLand(OnlyLent x) {
        Answers answers = new Answers(x);
        answers.rows.addAll(asked(x));
        for (int k = 0; k < 3; k++) answers.add("on " + k, x.on(k) ? 1 : 0);
        answers.add("go 60", x.go(60));
        answers.add("carried", x.count(5));
        return answers.rows;
    }

    private void add(String call, long answer) {
        rows.add(call + " = " + answer);
    }

    private void land() {
        for (int what = 0; what <= 10; what++) add("count " + what, x.count(what));
        add("fault", x.fault());
        for (int p = 0; p < x.count(0); p++)
            for (int what = 0; what < 2; what++) add("person " + p + " " + what, x.person(p, what));
        for (int w = 0; w < x.count(3); w++)
            for (int what = 0; what < 5; what++) add("want " + w + " " + what, x.want(w, what));
    }

    private void held() {
        for (int what : new int[] {4, 5, 8, 9}) add("count " + what, x.count(what));
        for (int t = 0; t < x.count(2); t++) {
            add("lost " + t, x.thing(t, 5));
            int many = x.thing(t, 4);
            for (int k = 0; k <= many; k++)
                for (int what = 0; what < 2; what++) add("chain " + t + " " + k + " " + what, x.chain(t, k, what));
        }
    }

    private void found() {
        for (int p = 0; p < x.count(0); p++) {
            add("holds " + p, x.person(p, 2));
            add("balance " + p, x.balance(p));
            for (int q = 0; q < x.count(0); q++) add("owes " + p + " " + q, x.owes(p, q));
        }
        add("met", x.met(0));
        add("other", x.other());
        add("shorts", x.shorts(0));
        for (int w = 0; w < x.count(3); w++) add("given " + w, x.given(w));
        for (int s = 0; s < x.count(1); s++) add("carry " + s, x.carry(s, -1));
        add("spread", x.spread());
        for (int what = 0; what < 4; what++) add("earth " + what, x.earth(what));
        add("years", x.years(5, 3, 9));
    }

    private void more() {
        for (int s = 0; s < x.count(1); s++) {
            for (int day : new int[] {0, 3, 5, 9}) add("moves " + s + " " + day, x.moves(s, day, 1));
            add("price " + s, x.price(s, 3));
        }
        for (int p = 0; p < x.count(0); p++) {
            add("late " + p, x.late(p, 7, 1));
            add("bears " + p, x.bears(p));
            add("dies " + p, x.dies(p, 4, 1));
        }
        for (int w = 0; w < x.count(3); w++) add("longer " + w, x.longer(w, 2));
    }
}
