/** The edges of what is met, short, priced, longer, and other: Terms 3, promises 17 to 21. */
final class MetEdges {
    private static final int NONE = Edges.NONE;
    private static final int LEAST = Edges.LEAST;
    private static final int MOST = Edges.MOST;
    private static final String ONE = "person a 0;person b 10;person c 30;sort s 5;thing s a;";
    private static final String NO_THING = "person a 0;person b 10;person c 30;sort s 5;";

    private final Edges e;

    MetEdges(Edges e) {
        this.e = e;
    }

    void run() {
        noDayWithMoreThanThings();
        thoseThatAreNotLost();
        greatestThenFewestThenLeastBits();
        shortOnTheFirstDay();
        priceOfThatDayAlone();
        longerAndHadToBe();
        otherIfAllWereOne();
        metPromise();
        shortsPromise();
        pricePromise();
        longerPromise();
        otherPromise();
    }

    private void met(String text, int bits, int weight) {
        OnlyLent x = Check.lent(text);
        e.due("met(0) of " + text, x.met(0), bits);
        e.due("met(1) of " + text, x.met(1), weight);
    }

    // ---- Terms 3

    private void noDayWithMoreThanThings() {
        e.of("Terms 3", "MET are WANTS so that on no day (from A to ahead of B) there are more of a SORT than THINGS of it");
        met(ONE, 0, 0);
        met(ONE + "want b s 0 1 1;", 1, 1);
        met(ONE + "want b s 59 60 99;", 1, 99);
        met(ONE + "want b s 0 60 3;", 1, 3);
        met(ONE + "want b s 0 5 3;want c s 5 9 4;", 3, 7);
        met(ONE + "want c s 5 9 4;want b s 0 5 3;", 3, 7);
        met(ONE + "want b s 0 6 3;want c s 5 9 4;", 2, 4);
        met(ONE + "want b s 0 1 3;want c s 0 1 4;", 2, 4);
        met(ONE + "want b s 59 60 3;want c s 58 60 4;", 2, 4);
        met(ONE + "want b s 59 60 3;want c s 58 59 4;", 3, 7);
        met(ONE + "want b s 0 60 3;want c s 0 1 1;want a s 59 60 1;", 1, 3);
        met(ONE + "want b s 0 60 3;want c s 0 1 2;want a s 59 60 2;", 6, 4);
        met(ONE + "want a s 0 4 3;want b s 3 6 5;want c s 5 9 3;", 5, 6);
        met(ONE + "want a s 0 4 2;want b s 3 6 5;want c s 5 9 2;", 2, 5);
        met(ONE + "thing s b;want a s 0 4 1;want b s 2 6 5;want c s 3 9 5;", 6, 10);
        met(ONE + "thing s b;want a s 0 4 1;want b s 2 6 5;want c s 4 9 5;", 7, 11);
        int[] bits = {0, 32, 48, 56, 60};
        int[] weights = {0, 6, 11, 15, 18};
        for (int things = 0; things <= 4; things++) {
            StringBuilder text = new StringBuilder(NO_THING + "thing s c;".repeat(things));
            for (int w = 1; w <= 6; w++) text.append("want a s 0 60 ").append(w).append(';');
            met(text.toString(), bits[things], weights[things]);
        }
        met(ONE + "sort t 1;want a t 0 5 4;want b s 0 5 4;", 2, 4);
        met(ONE + "sort t 1;thing t a;want a t 0 5 4;want b s 0 5 4;", 3, 8);
        met(ONE + "sort t 1;thing t a;thing t a;want a t 0 5 4;want b s 0 5 4;want c s 0 5 4;", 3, 8);
    }

    private void thoseThatAreNotLost() {
        e.of("Terms 3", "(here and below: those that aren't LOST)");
        OnlyLent x = Check.lent(ONE + "thing s b;sort t 1;thing t c;want a s 0 5 4;want b s 4 9 5;want c s 8 9 1;want c s 20 21 3;want a t 0 5 2;");
        e.due("met with two", x.met(0), 31);
        e.due("nothing is short", x.shorts(0), NONE);
        e.due("price", x.price(0, 4), 0);
        e.due("longer", x.longer(0, 1), 0);
        x.lend(0, 1, 60);
        e.due("one that is lent is one", x.met(0), 31);
        x.lose(0);
        e.due("met with one", x.met(0), 26);
        e.due("weight", x.met(1), 10);
        e.due("short", x.shorts(0), 4);
        e.due("price of the day", x.price(0, 4), 4);
        e.due("price of the other day", x.price(0, 8), 1);
        e.due("longer", x.longer(0, 1), 0);
        e.due("other, with two in all", x.other(), 3);
        e.due("given", x.given(1), 1);
        x.lose(2);
        e.due("met without a thing of the other sort", x.met(0), 10);
        e.due("longer without a thing", x.longer(4, 1), NONE);
        x.lose(1);
        e.due("met with none", x.met(0), 0);
        e.due("short from the first day on which one is wanted", x.shorts(0), 0);
        e.due("price with none", x.price(0, 20), 3);
        e.due("longer with none", x.longer(0, 1), NONE);
        e.due("other with none", x.other(), 0);
        e.due("given with none", x.given(1), NONE);
    }

    private void greatestThenFewestThenLeastBits() {
        e.of("Terms 3", "with the greatest W together; of like ones the fewest, then the least bits.");
        met(ONE + "want a s 0 9 99;want a s 0 5 50;want b s 5 9 50;", 6, 100);
        met(ONE + "want a s 0 5 4;want b s 5 9 4;want c s 0 9 8;", 4, 8);
        met(ONE + "want c s 0 9 8;want a s 0 5 4;want b s 5 9 4;", 1, 8);
        met(ONE + "want a s 0 4 2;want b s 3 6 4;want c s 5 9 2;", 2, 4);
        met(ONE + "want a s 0 5 4;want b s 0 5 4;", 1, 4);
        met(ONE + "want a s 3 5 4;want b s 2 5 4;want c s 0 5 4;", 1, 4);
        met(ONE + "want a s 0 5 3;want a s 0 6 5;want b s 6 9 3;want c s 5 9 5;", 6, 8);
        met(ONE + "want a s 0 5 3;want a s 0 5 3;want b s 5 9 3;want c s 5 9 3;", 5, 6);
        met(ONE + "thing s a;want a s 0 5 4;want a s 0 5 4;want a s 0 5 4;", 3, 8);
        met(ONE + "sort t 1;thing t a;want a t 0 5 4;want a s 0 5 4;want b t 0 5 4;want b s 0 5 4;", 3, 8);
        met(ONE + "sort t 1;thing t a;want a s 0 9 2;want a t 0 9 2;want b s 0 1 1;want b s 1 2 1;want b t 0 1 1;want b t 1 2 1;", 3, 4);
        // Fewest comes ahead of the bits, also when the fewest have the highest bits.
        met(ONE + "sort t 1;want a s 0 3 2;want a s 3 6 2;want a s 6 9 2;" + "want a t 0 1 1;".repeat(6) + "want b s 20 21 9;want b s 0 5 3;want b s 5 9 3;",
            512 + 1024 + 2048, 15);
        StringBuilder all = new StringBuilder(ONE + "sort t 1;thing t a;");
        for (int i = 0; i < 6; i++) all.append("want b s ").append(10 * i).append(' ').append(10 * i + 10).append(" 99;");
        for (int i = 5; i >= 0; i--) all.append("want c t ").append(10 * i).append(' ').append(10 * i + 10).append(" 99;");
        met(all.toString(), 4095, 1188);
    }

    private void shorts(String text, int day, int sort) {
        OnlyLent x = Check.lent(text);
        e.due("shorts(0) of " + text, x.shorts(0), day);
        e.due("shorts(1) of " + text, x.shorts(1), sort);
    }

    private void shortOnTheFirstDay() {
        e.of("Terms 3", "SHORT is the first day on which more WANTS are of some SORT than THINGS of it, and the least such SORT.");
        shorts(ONE, NONE, NONE);
        shorts(ONE + "want a s 0 60 1;", NONE, NONE);
        shorts(ONE + "want a s 0 5 1;want b s 5 9 1;", NONE, NONE);
        shorts(ONE + "want a s 0 6 1;want b s 5 9 1;", 5, 0);
        shorts(ONE + "want a s 0 1 1;want b s 0 1 1;", 0, 0);
        shorts(ONE + "want a s 59 60 1;want b s 58 60 1;", 59, 0);
        shorts(NO_THING + "want a s 59 60 1;", 59, 0);
        shorts(NO_THING + "want a s 7 60 1;want a s 3 4 1;", 3, 0);
        shorts(NO_THING + "thing s a;thing s a;thing s a;thing s a;want a s 0 9 1;want a s 1 9 1;want a s 2 9 1;want a s 3 9 1;", NONE, NONE);
        shorts(NO_THING + "thing s a;thing s a;thing s a;thing s a;want a s 0 9 1;want a s 1 9 1;want a s 2 9 1;want a s 3 9 1;want a s 8 9 1;", 8, 0);
        shorts(ONE + "sort t 1;want a s 3 5 1;want b s 4 5 1;want a t 4 5 1;", 4, 0);
        shorts(ONE + "sort t 1;want a s 3 5 1;want b s 4 5 1;want a t 3 5 1;", 3, 1);
        shorts(NO_THING + "sort t 1;sort u 1;sort v 1;want a v 9 10 1;want a u 9 10 1;want a t 10 11 1;", 9, 2);
        shorts(NO_THING + "sort t 1;sort u 1;sort v 1;want a v 9 10 1;", 9, 3);
    }

    private void prices(String text, int day, int price) {
        OnlyLent x = Check.lent(text);
        for (int d = 0; d < 60; d++) e.due("price(0, " + d + ") of " + text, x.price(0, d), d == day ? price : 0);
    }

    private void priceOfThatDayAlone() {
        e.of("Terms 3", "The PRICE of a SORT on a day is by how much more could be MET with one THING more of it on that day alone.");
        prices(ONE, NONE, 0);
        prices(ONE + "want a s 0 60 9;", NONE, 0);
        prices(ONE + "want a s 0 1 5;want b s 0 1 3;", 0, 3);
        prices(ONE + "want a s 59 60 5;want b s 59 60 3;", 59, 3);
        prices(ONE + "want a s 5 7 5;want b s 5 7 3;", NONE, 0);
        prices(ONE + "want a s 5 9 5;want b s 5 6 3;", 5, 3);
        prices(ONE + "want a s 5 9 5;want b s 6 7 3;", 6, 3);
        prices(ONE + "want a s 5 9 5;want b s 8 9 3;", 8, 3);
        prices(ONE + "want a s 5 9 5;want b s 8 12 3;", 8, 3);
        prices(ONE + "want a s 5 9 5;want b s 7 12 3;", NONE, 0);
        prices(ONE + "want a s 5 9 5;want b s 2 6 3;", 5, 3);
        prices(ONE + "want c s 0 10 10;want a s 0 5 9;want b s 4 10 9;", 4, 8);
        prices(NO_THING + "want a s 30 31 9;", 30, 9);
        prices(NO_THING + "want a s 30 32 9;", NONE, 0);
        prices(NO_THING + "want a s 30 31 9;want b s 30 31 99;", 30, 99);
        prices(NO_THING + "thing s a;".repeat(4) + "want a s 3 4 9;".repeat(5) + "want b s 3 4 2;", 3, 9);
        OnlyLent y = Check.lent(ONE + "sort t 1;want a t 4 5 7;want a s 4 5 7;");
        e.due("of one sort", y.price(0, 4), 0);
        e.due("of the other sort", y.price(1, 4), 7);
    }

    private static final String LONG = ONE + "want a s 0 5 5;want b s 6 9 4;want c s 6 8 3;want c s 50 59 2;sort t 1;want a t 0 1 9;";

    private void longerAndHadToBe() {
        e.of("Terms 3", "LONGER: what less could be MET, if one WANT, its B so many days later (60 at most), had to be.");
        OnlyLent x = Check.lent(LONG);
        e.due("up to the next one's A", x.longer(0, 1), 0);
        e.due("over the next one's A", x.longer(0, 2), 4);
        e.due("over all of them", x.longer(0, 55), 6);
        e.due("one that isn't met", x.longer(2, 1), 1);
        e.due("up to the last one's A", x.longer(1, 41), 0);
        e.due("over the last one's A", x.longer(1, 42), 2);
        e.due("till day 60", x.longer(3, 1), 0);
        e.due("met as ahead", x.met(1), 11);
        OnlyLent y = Check.lent(ONE + "want a s 0 9 1;want b s 0 9 99;");
        e.due("the least one had to be", y.longer(0, 1), 98);
        e.due("the greatest one had to be", y.longer(1, 1), 0);
        OnlyLent z = Check.lent(ONE + "thing s a;want a s 0 9 1;want b s 9 12 9;want c s 9 12 8;");
        e.due("beside one of two things", z.longer(0, 1), 8);
        e.due("the prices are as ahead", z.price(0, 9), 0);
    }

    private void otherIfAllWereOne() {
        e.of("Terms 3", "OTHER: by how much more could be MET, if all SORTS were one.");
        e.due("no wants", Check.lent(ONE).other(), 0);
        e.due("no things", Check.lent(NO_THING + "want a s 0 5 1;").other(), 0);
        e.due("all met", Check.lent(ONE + "sort t 1;thing t a;want a s 0 5 1;want a t 0 5 9;").other(), 0);
        e.due("the greater one for the lesser one", Check.lent(ONE + "sort t 1;want a s 0 5 1;want a t 0 5 9;").other(), 8);
        e.due("a thing of another sort", Check.lent(NO_THING + "sort t 1;thing t a;want a s 0 5 7;").other(), 7);
        StringBuilder text = new StringBuilder(ONE + "sort t 1;");
        for (int i = 0; i < 6; i++) text.append("want b s ").append(5 * i).append(' ').append(5 * i + 5).append(" 99;");
        for (int i = 6; i < 12; i++) text.append("want c t ").append(5 * i).append(' ').append(5 * i + 5).append(" 98;");
        e.due("twelve wants, one thing", Check.lent(text.toString()).other(), 588);
        StringBuilder many = new StringBuilder(ONE + "sort t 1;want a s 0 60 10;");
        for (int i = 0; i < 5; i++) many.append("want b s ").append(i).append(' ').append(i + 1).append(" 1;");
        for (int i = 5; i < 11; i++) many.append("want b t ").append(i).append(' ').append(i + 1).append(" 1;");
        e.due("eleven for one, by one", Check.lent(many.toString()).other(), 1);
        String four = "thing s a;thing t a;thing u a;thing v a;".repeat(3);
        String wants = "want a s 0 60 5;".repeat(6) + "want b t 0 60 4;".repeat(6);
        e.due("twelve wants, twelve things", Check.lent("person a 0;person b 0;sort s 1;sort t 1;sort u 1;sort v 1;" + four + wants).other(), 27);
    }

    // ---- promises

    private void metPromise() {
        e.of("Promise 17", "MET: bits (what 0), W together (1); NONE for others, or without a LAND.");
        met(ONE, 0, 0);
        OnlyLent x = Check.lent(ONE + "want b s 0 60 3;");
        for (int wrong : new int[] {-1, 2, LEAST, MOST}) e.due("met(" + wrong + ")", x.met(wrong), NONE);
        for (int what : new int[] {0, 1, 2, -1}) e.due("met(" + what + ") without a land", new OnlyLent().met(what), NONE);
        e.statuses(x, 0, 0, 0);
    }

    private void shortsPromise() {
        e.of("Promise 18", "SHORT: the day (what 0), the SORT (1); NONE for others, if there is none, or without a LAND.");
        shorts(ONE + "want a s 0 60 1;", NONE, NONE);
        OnlyLent x = Check.lent(NO_THING + "want b s 0 60 3;");
        e.due("shorts(0)", x.shorts(0), 0);
        e.due("shorts(1)", x.shorts(1), 0);
        for (int wrong : new int[] {-1, 2, LEAST, MOST}) e.due("shorts(" + wrong + ")", x.shorts(wrong), NONE);
        for (int what : new int[] {0, 1, 2, -1}) e.due("shorts(" + what + ") without a land", new OnlyLent().shorts(what), NONE);
        e.statuses(x, 0, 0, 0);
    }

    private void pricePromise() {
        e.of("Promise 19", "PRICE (day 0 .. 59); NONE if there are none such.");
        OnlyLent x = Check.lent(NO_THING + "sort t 1;want a s 0 1 5;want b t 59 60 3;");
        e.due("price(0, 0)", x.price(0, 0), 5);
        e.due("price(1, 59)", x.price(1, 59), 3);
        for (int wrong : new int[] {-1, 60, 61, LEAST, MOST}) e.due("price(0, " + wrong + ")", x.price(0, wrong), NONE);
        for (int wrong : new int[] {-1, 2, 3, 4, LEAST, MOST}) e.due("price(" + wrong + ", 0)", x.price(wrong, 0), NONE);
        e.due("without a land", new OnlyLent().price(0, 0), NONE);
        e.due("what is met behind a price", x.met(0), 0);
        e.statuses(x, 0, 0, 0);
    }

    private void longerPromise() {
        OnlyLent x = Check.lent(LONG);
        e.of("Promise 20", "LONGER by m days (1 .. 60);");
        for (int wrong : new int[] {-1, 0, 61, LEAST, MOST}) e.due("longer(0, " + wrong + ")", x.longer(0, wrong), NONE);
        e.of("Promise 20", "NONE if it can't be (B would be above 60, or it is never MET so), or there is none such.");
        e.due("from 59 to 60", x.longer(3, 1), 0);
        e.due("from 59 to 61", x.longer(3, 2), NONE);
        e.due("from 5 to 60", x.longer(0, 55), 6);
        e.due("from 5 to 61", x.longer(0, 56), NONE);
        e.due("from 5 to 65", x.longer(0, 60), NONE);
        e.due("never met", x.longer(4, 1), NONE);
        for (int wrong : new int[] {-1, 5, 12, LEAST, MOST}) e.due("longer(" + wrong + ", 1)", x.longer(wrong, 1), NONE);
        OnlyLent y = Check.lent(ONE + "want a s 0 1 5;want b s 59 60 4;");
        e.due("from 1 to 60", y.longer(0, 59), 4);
        e.due("from 1 to 61", y.longer(0, 60), NONE);
        e.due("from 60 to 61", y.longer(1, 1), NONE);
        e.due("without a land", new OnlyLent().longer(0, 1), NONE);
        e.due("what is met behind it", y.met(0), 3);
        e.statuses(x, 0, 0, 0);
    }

    private void otherPromise() {
        e.of("Promise 21", "OTHER; NONE without a LAND.");
        OnlyLent x = new OnlyLent();
        e.due("other() without a land", x.other(), NONE);
        Check.feed(x, ONE);
        e.due("other() with a text alone", x.other(), NONE);
        x.land();
        e.due("other() with a land", x.other(), 0);
        e.statuses(x, 0, 0, 0);
    }
}
