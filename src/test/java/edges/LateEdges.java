/** The edges of one who is late, of whom it reaches, and of a death: Terms 5, promises 26 to 28. */
final class LateEdges {
    private static final int NONE = Edges.NONE;
    private static final int LEAST = Edges.LEAST;
    private static final int MOST = Edges.MOST;
    private static final String ONE = "person a 0;person b 10;person c 30;sort s 5;thing s a;";
    private static final String LATE = ONE + "want a s 0 5 9;want b s 6 8 10;want c s 8 10 7;want c s 12 20 8;";

    private final Edges e;

    LateEdges(Edges e) {
        this.e = e;
    }

    void run() {
        withAllItWasGiven();
        beginsThenIfBehindItsA();
        lastsNoDay();
        andSoOn();
        hurt();
        lostIsCut();
        bears();
        diesOfThoseMetAndNotOver();
        diesDaysFromThatDayOn();
        othersCouldBeMetMore();
        thingsAreItsHeirs();
        latePromise();
        bearsPromise();
        diesPromise();
    }

    private void late(OnlyLent x, int person, int days, int bits, int weight) {
        e.due("late(" + person + ", " + days + ", 0)", x.late(person, days, 0), bits);
        e.due("late(" + person + ", " + days + ", 1)", x.late(person, days, 1), weight);
    }

    // ---- Terms 5: late

    private void withAllItWasGiven() {
        e.of("Terms 5", "LATE by l days (1 .. 60) is a PERSON with all it was GIVEN: it has each till its B and l;");
        OnlyLent x = Check.lent(ONE + "thing s a;sort t 1;thing t a;want a s 0 5 9;want b s 5 9 4;want a s 0 5 9;want c s 5 9 8;"
            + "want a t 10 20 9;want b t 22 26 12;");
        int[] things = {0, 0, 1, 1, 2, 2};
        for (int w = 0; w < 6; w++) e.due("given(" + w + ")", x.given(w), things[w]);
        late(x, 0, 1, 2 + 8, 1 + 2);
        late(x, 0, 2, 2 + 8, 2 + 4);
        late(x, 0, 3, 2 + 8 + 32, 3 + 6 + 3);
        late(x, 0, 60, 2 + 8 + 32, 4 + 8 + 12);
        late(x, 1, 60, 0, 0);
        OnlyLent y = Check.lent(ONE + "want a s 0 5 9;want a s 0 6 9;want b s 5 9 4;");
        e.due("one of two that is not met", y.given(1), NONE);
        late(y, 0, 1, 4, 1);
    }

    private void beginsThenIfBehindItsA() {
        e.of("Terms 5", "the next WANT of that THING begins then, if that is behind its A;");
        OnlyLent x = Check.lent(LATE);
        late(x, 0, 1, 0, 0);
        late(x, 0, 2, 2, 5);
        late(x, 2, 1, 0, 0);
        late(x, 2, 2, 0, 0);
        late(x, 2, 3, 8, 1);
        late(x, 1, 1, 4, 3);
        OnlyLent y = Check.lent(ONE + "want a s 0 1 9;want b s 59 60 7;");
        late(y, 0, 57, 0, 0);
        late(y, 0, 58, 0, 0);
        late(y, 0, 59, 2, 7);
        late(y, 0, 60, 2, 7);
        late(y, 1, 60, 0, 0);
        // The next by days, not by numbers.
        OnlyLent z = Check.lent(ONE + "want b s 8 12 8;want c s 20 24 8;want a s 0 8 9;");
        late(z, 2, 1, 0, 0);
        late(z, 0, 1, 1, 2);
        late(z, 1, 9, 2, 2);
    }

    private void lastsNoDay() {
        e.of("Terms 5", "if it is not ahead of its B either, that WANT lasts no day (and makes nothing later itself),");
        OnlyLent x = Check.lent(ONE + "want a s 0 5 9;want a s 6 8 10;want b s 9 12 6;");
        late(x, 0, 1, 0, 0);
        late(x, 0, 2, 2 + 4, 5 + 2);
        late(x, 0, 3, 2, 10);
        late(x, 0, 4, 2, 10);
        late(x, 0, 5, 2 + 4, 10 + 2);
        // One that lasts a day still is late itself.
        OnlyLent y = Check.lent(ONE + "want a s 0 5 9;want a s 5 7 10;want b s 8 12 8;");
        late(y, 0, 1, 2, 5);
        late(y, 0, 2, 2, 10);
        late(y, 0, 3, 2, 10);
        late(y, 0, 4, 2 + 4, 10 + 2);
    }

    private void andSoOn() {
        e.of("Terms 5", "and the one behind it begins then, if that is behind its A, and so on.");
        OnlyLent x = Check.lent(ONE + "want a s 0 1 9;want b s 1 2 1;want c s 2 3 2;want b s 3 4 4;want c s 5 6 8;");
        late(x, 0, 1, 2, 1);
        late(x, 0, 2, 2 + 4, 3);
        late(x, 0, 3, 2 + 4 + 8, 7);
        late(x, 0, 4, 2 + 4 + 8, 7);
        late(x, 0, 5, 2 + 4 + 8 + 16, 15);
        late(x, 0, 60, 2 + 4 + 8 + 16, 15);
        // One that begins later has it till its own B, and makes nothing later itself.
        OnlyLent y = Check.lent(ONE + "want a s 0 4 9;want b s 4 8 8;want c s 8 12 8;");
        late(y, 0, 3, 2, 6);
        late(y, 0, 4, 2, 8);
        late(y, 0, 5, 2 + 4, 8 + 2);
    }

    private void hurt() {
        e.of("Terms 5", "HURT are WANTS that begin later than their A, or last no day;");
        OnlyLent x = Check.lent(ONE + "want a s 0 5 9;want b s 5 60 1;");
        late(x, 0, 1, 2, 0);
        late(x, 0, 54, 2, 0);
        late(x, 0, 55, 2, 1);
        OnlyLent none = Check.lent(ONE);
        for (int p = 0; p < 3; p++) late(none, p, 60, 0, 0);
        OnlyLent lost = Check.lent(LATE);
        lost.lose(0);
        late(lost, 0, 60, 0, 0);
    }

    private void lostIsCut() {
        e.of("Terms 5", "what is lost of one is W times the days by which it begins later (B less A at most) by B less A (cut).");
        OnlyLent x = Check.lent(ONE + "want a s 0 1 9;want b s 1 60 99;");
        late(x, 0, 1, 2, 1);
        late(x, 0, 2, 2, 3);
        late(x, 0, 58, 2, 97);
        late(x, 0, 59, 2, 99);
        late(x, 0, 60, 2, 99);
        OnlyLent y = Check.lent(ONE + "thing s b;want a s 0 5 9;want b s 5 7 1;want a s 0 5 9;want c s 5 7 1;");
        late(y, 0, 1, 2 + 8, 0);
        late(y, 0, 2, 2 + 8, 2);
        OnlyLent z = Check.lent(LATE);
        late(z, 0, 3, 2, 10);
        late(z, 0, 4, 2 + 4, 10 + 3);
        late(z, 0, 60, 2 + 4 + 8, 25);
    }

    private void bears() {
        e.of("Terms 5", "BEARS is the greatest l (0 .. 60) with which nobody is HURT.");
        OnlyLent x = Check.lent(LATE + "person d 5;");
        int[] days = {1, 0, 2, 60};
        for (int p = 0; p < 4; p++) e.due("bears(" + p + ")", x.bears(p), days[p]);
        OnlyLent y = Check.lent(ONE + "want a s 0 1 9;want b s 59 60 7;");
        e.due("58 days between", y.bears(0), 58);
        e.due("none behind", y.bears(1), 60);
        OnlyLent z = Check.lent(ONE + "thing s a;want a s 0 5 9;want b s 9 12 7;want a s 0 5 9;want c s 8 12 7;");
        e.due("the lesser one of two things", z.bears(0), 3);
        OnlyLent own = Check.lent(ONE + "want a s 0 5 9;want a s 7 9 9;");
        e.due("its own want is hurt", own.bears(0), 2);
        OnlyLent lost = Check.lent(LATE);
        lost.lose(0);
        e.due("with nothing given", lost.bears(1), 60);
    }

    // ---- Terms 5: a death

    private void dies(OnlyLent x, int person, int day, int lost, int more) {
        e.due("dies(" + person + ", " + day + ", 0)", x.dies(person, day, 0), lost);
        e.due("dies(" + person + ", " + day + ", 1)", x.dies(person, day, 1), more);
    }

    private void diesOfThoseMetAndNotOver() {
        e.of("Terms 5", "DIES a PERSON on a day: of its WANTS that are MET and aren't over");
        OnlyLent x = Check.lent(ONE + "want a s 0 5 10;want a s 0 5 9;want b s 10 60 6;want b s 5 10 5;");
        int[] lost = {10, 8, 6, 4, 2, 0};
        for (int day = 0; day < lost.length; day++) dies(x, 0, day, lost[day], 0);
        dies(x, 0, 60, 0, 0);
        dies(x, 1, 0, 11, 0);
        dies(x, 1, 9, 1 + 6, 0);
        dies(x, 1, 10, 6, 0);
        dies(x, 1, 60, 0, 0);
        dies(x, 2, 0, 0, 0);
        OnlyLent y = Check.lent(ONE + "want a s 58 60 10;");
        dies(y, 0, 58, 10, 0);
        dies(y, 0, 59, 5, 0);
        dies(y, 0, 60, 0, 0);
    }

    private void diesDaysFromThatDayOn() {
        e.of("Terms 5", "W times the days from that day on (B less A at most) by B less A (cut) are lost;");
        OnlyLent x = Check.lent(ONE + "want a s 8 20 10;want a s 30 32 1;want a s 40 42 1;");
        dies(x, 0, 0, 12, 0);
        dies(x, 0, 7, 12, 0);
        dies(x, 0, 8, 12, 0);
        dies(x, 0, 9, 9 + 2, 0);
        dies(x, 0, 18, 1 + 2, 0);
        dies(x, 0, 19, 2, 0);
        dies(x, 0, 20, 2, 0);
        dies(x, 0, 31, 1, 0);
        dies(x, 0, 32, 1, 0);
        dies(x, 0, 41, 0, 0);
        OnlyLent y = Check.lent(ONE + "thing s a;want b s 3 5 1;want b s 3 5 1;");
        dies(y, 1, 3, 2, 0);
        dies(y, 1, 4, 0, 0);
        OnlyLent z = Check.lent(ONE + "want a s 0 60 99;");
        dies(z, 0, 0, 99, 0);
        dies(z, 0, 1, 97, 0);
        dies(z, 0, 59, 1, 0);
    }

    private void othersCouldBeMetMore() {
        e.of("Terms 5", "with none of its WANTS the others could be MET more by something;");
        OnlyLent x = Check.lent(ONE + "want a s 0 5 9;want b s 4 8 8;want a s 8 20 10;want c s 19 22 1;");
        e.due("met", x.met(0), 5);
        dies(x, 0, 0, 19, 9);
        dies(x, 0, 60, 0, 9);
        dies(x, 1, 0, 0, 0);
        dies(x, 2, 0, 0, 0);
        OnlyLent y = Check.lent(ONE + "sort t 1;thing t a;want a s 0 5 9;want b s 0 5 7;want c s 0 5 8;want a t 0 5 9;want c t 0 5 3;want b t 5 9 2;");
        dies(y, 0, 0, 18, 8 + 3);
        dies(y, 1, 0, 2, 0);
        OnlyLent z = Check.lent(ONE + "want a s 0 5 9;want a s 5 9 9;");
        dies(z, 0, 0, 18, 0);
        OnlyLent fewest = Check.lent(ONE + "want a s 0 9 4;want b s 0 5 2;want c s 5 9 2;");
        dies(fewest, 0, 0, 4, 4);
        OnlyLent behind = Check.lent(ONE + "want a s 0 1 5;want b s 1 3 5;want c s 4 6 5;");
        e.due("one of the others longer, into the next one", behind.longer(1, 5), 5);
        dies(behind, 0, 0, 5, 0);
        x.lose(0);
        dies(x, 0, 0, 0, 0);
    }

    private void thingsAreItsHeirs() {
        e.of("Terms 5", "its THINGS are its heir's.");
        for (String heir : new String[] {"heir a b;", "heir a c;", ""}) {
            OnlyLent x = Check.lent(ONE + "want a s 0 5 9;want b s 4 8 8;" + heir);
            dies(x, 0, 0, 9, 8);
            e.due("nobody has died", x.thing(0, 1), 0);
            e.due("nobody has died", x.met(0), 1);
        }
    }

    // ---- promises

    private void latePromise() {
        e.of("Promise 26", "LATE by l days: WANTS that are HURT (bits; what 0), what is lost of them (1);");
        OnlyLent x = Check.lent(LATE);
        late(x, 0, 1, 0, 0);
        late(x, 0, 60, 14, 25);
        StringBuilder text = new StringBuilder(ONE + "sort t 1;thing t a;");
        for (int i = 0; i < 6; i++) text.append("want a s ").append(i).append(' ').append(i + 1).append(" 99;");
        for (int i = 0; i < 6; i++) text.append("want a t ").append(i).append(' ').append(i + 1).append(" 99;");
        late(Check.lent(text.toString()), 0, 60, 4095 - 1 - 64, 990);
        e.of("Promise 26", "NONE for others, or if there are none such.");
        for (int what = 0; what < 2; what++) {
            for (int wrong : new int[] {-1, 3, 8, LEAST, MOST}) e.due("late(" + wrong + ", 1, " + what + ")", x.late(wrong, 1, what), NONE);
            for (int wrong : new int[] {-1, 0, 61, LEAST, MOST}) e.due("late(0, " + wrong + ", " + what + ")", x.late(0, wrong, what), NONE);
        }
        for (int wrong : new int[] {-1, 2, LEAST, MOST}) e.due("late(0, 1, " + wrong + ")", x.late(0, 1, wrong), NONE);
        e.due("without a land", new OnlyLent().late(0, 1, 0), NONE);
        e.statuses(x, 0, 0, 0);
    }

    private void bearsPromise() {
        e.of("Promise 27", "BEARS; NONE if there is no such PERSON.");
        OnlyLent x = Check.lent(ONE);
        for (int p = 0; p < 3; p++) e.due("bears(" + p + ")", x.bears(p), 60);
        for (int wrong : new int[] {-1, 3, 8, LEAST, MOST}) e.due("bears(" + wrong + ")", x.bears(wrong), NONE);
        e.due("without a land", new OnlyLent().bears(0), NONE);
        e.statuses(x, 0, 0, 0);
    }

    private void diesPromise() {
        e.of("Promise 28", "DIES on a day (0 .. 60): what is lost of its WANTS (what 0), how much more of others could be MET (1);");
        OnlyLent x = Check.lent(ONE + "want a s 0 60 60;want b s 0 5 1;want c s 5 60 1;");
        dies(x, 0, 0, 60, 2);
        dies(x, 0, 59, 1, 2);
        dies(x, 0, 60, 0, 2);
        e.of("Promise 28", "NONE for others, or if there are none such.");
        for (int what = 0; what < 2; what++) {
            for (int wrong : new int[] {-1, 3, 8, LEAST, MOST}) e.due("dies(" + wrong + ", 0, " + what + ")", x.dies(wrong, 0, what), NONE);
            for (int wrong : new int[] {-1, 61, LEAST, MOST}) e.due("dies(0, " + wrong + ", " + what + ")", x.dies(0, wrong, what), NONE);
        }
        for (int wrong : new int[] {-1, 2, LEAST, MOST}) e.due("dies(0, 0, " + wrong + ")", x.dies(0, 0, wrong), NONE);
        e.due("without a land", new OnlyLent().dies(0, 0, 0), NONE);
        e.statuses(x, 0, 0, 0);
    }
}
