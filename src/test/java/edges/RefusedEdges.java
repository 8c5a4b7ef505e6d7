/** What is refused, what only asks, and what is counted: Terms 6, promises 35 and 36. */
final class RefusedEdges {
    private static final int NONE = Edges.NONE;
    private static final int LEAST = Edges.LEAST;
    private static final int MOST = Edges.MOST;
    private static final String LAND = "person a 0;person b 10;person c 30;person d 99;sort s 7;sort t 9;thing s a;thing s b;"
        + "thing t c;thing t d;want c s 3 9 5;want d s 5 12 6;want b t 0 60 9;hands 2;road 4;heir a b;";

    private final Edges e;

    RefusedEdges(Edges e) {
        this.e = e;
    }

    void run() {
        noSuch();
        noRoom();
        elseNot();
        leastReason();
        asksAreNotRefused();
        doneIsNotRefused();
        statusPromise();
        countPromise();
        at512Calls();
    }

    // ---- objects in the midst of their runs

    private static OnlyLent none() {
        return new OnlyLent();
    }

    private static OnlyLent begun() {
        OnlyLent x = new OnlyLent();
        Check.feed(x, "person x 5;");
        return x;
    }

    private static OnlyLent fresh() {
        return Check.lent(LAND);
    }

    /** Today is 5; thing 0 is lent twice, thing 1 once till 30, thing 2 is lost as it was lent, thing 3 is with its first. */
    private static OnlyLent lived() {
        OnlyLent x = Check.lent(LAND);
        x.lend(0, 1, 40);
        x.image(0);
        x.lend(0, 3, 20);
        x.lend(1, 2, 30);
        x.lend(2, 0, 50);
        x.go(5);
        x.lose(2);
        x.law(1);
        x.image(2);
        x.entry(0, 1);
        x.entry(1, 2);
        Check.feed(x, "person x 5;sort y 6;");
        return x;
    }

    private static OnlyLent faulty() {
        OnlyLent x = lived();
        x.end(11);
        return x;
    }

    private static OnlyLent roomless() {
        OnlyLent x = lived();
        while (x.count(10) < 500) x.feed(0x20202020, 0x20202020, 0x20202020, 0x20202020, 0x20202020);
        x.end(481);
        return x;
    }

    private static OnlyLent bookFull() {
        OnlyLent x = lived();
        while (x.count(9) < 10) x.entry(2, 3);
        return x;
    }

    private static OnlyLent lastDay() {
        OnlyLent x = lived();
        x.go(55);
        return x;
    }

    // ---- Terms 6: refused

    private void noSuch() {
        e.of("Terms 6", "by 0 there is none such (a PERSON, THING, LAW, IMAGE),");
        for (int wrong : new int[] {-1, 4, LEAST, MOST}) {
            e.refuses("lend of thing " + wrong, RefusedEdges::lived, x -> x.lend(wrong, 1, 9), NONE, 0);
            e.refuses("lend to " + wrong, RefusedEdges::lived, x -> x.lend(3, wrong, 9), NONE, 0);
            e.refuses("back of " + wrong, RefusedEdges::lived, x -> x.back(wrong), NONE, 0);
            e.refuses("lose of " + wrong, RefusedEdges::lived, x -> x.lose(wrong) ? 1 : 0, 0, 0);
            e.refuses("entry from " + wrong, RefusedEdges::lived, x -> x.entry(wrong, 0), NONE, 0);
            e.refuses("entry to " + wrong, RefusedEdges::lived, x -> x.entry(0, wrong), NONE, 0);
        }
        for (int wrong : new int[] {-1, 2, LEAST, MOST})
            e.refuses("law " + wrong, RefusedEdges::lived, x -> x.law(wrong) ? 1 : 0, 0, 0);
        for (int wrong : new int[] {-1, 3, LEAST, MOST}) {
            e.refuses("image " + wrong, RefusedEdges::lived, x -> x.image(wrong) ? 1 : 0, 0, 0);
            e.refuses("on " + wrong, RefusedEdges::lived, x -> x.on(wrong) ? 1 : 0, 0, 0);
        }
        e.refuses("on 1, which has not come", RefusedEdges::lived, x -> x.on(1) ? 1 : 0, 0, 0);
        e.refuses("on 0 of a fresh land", RefusedEdges::fresh, x -> x.on(0) ? 1 : 0, 0, 0);
        e.refuses("lend without a land", RefusedEdges::begun, x -> x.lend(0, 0, 1), NONE, 0);
        e.refuses("back without a land", RefusedEdges::begun, x -> x.back(0), NONE, 0);
        e.refuses("lose without a land", RefusedEdges::begun, x -> x.lose(0) ? 1 : 0, 0, 0);
        e.refuses("law 2 without a land", RefusedEdges::begun, x -> x.law(2) ? 1 : 0, 0, 0);
        e.refuses("entry without a land", RefusedEdges::begun, x -> x.entry(0, 1), NONE, 0);
        e.refuses("image 3 without a land", RefusedEdges::begun, x -> x.image(3) ? 1 : 0, 0, 0);
        e.refuses("on 0 without a land", RefusedEdges::begun, x -> x.on(0) ? 1 : 0, 0, 0);
    }

    private void noRoom() {
        e.of("Terms 6", "1 there is no room, else 2 it can't be otherwise (1 of feed() and entry() alone).");
        e.refuses("feed with room for 19", RefusedEdges::roomless, x -> x.feed(1, 2, 3, 4, 5), NONE, 1);
        e.refuses("an eleventh entry", RefusedEdges::bookFull, x -> x.entry(0, 1), NONE, 1);
        e.refuses("a chain that is full", RefusedEdges::lived, x -> x.lend(0, 2, 9), NONE, 2);
        e.refuses("a day too much", RefusedEdges::lastDay, x -> x.go(1), NONE, 2);
    }

    private void elseNot() {
        e.of("Terms 6", "What is refused changes nothing else.");
        for (int n : new int[] {-1, 21, 500, LEAST, MOST})
            e.refuses("end " + n, RefusedEdges::lived, x -> x.end(n) ? 1 : 0, 0, 2);
        e.refuses("end 1 of nothing", RefusedEdges::none, x -> x.end(1) ? 1 : 0, 0, 2);
        e.refuses("land with a fault", RefusedEdges::faulty, x -> x.land(), NONE, 2);
        e.refuses("land with a fault, and no land", RefusedEdges::begun, x -> x.land(), NONE, 2);
        e.refuses("land of nothing", RefusedEdges::none, x -> x.land(), NONE, 2);
        for (int p = 0; p < 4; p++) {
            int person = p;
            e.refuses("lend of a lost thing to " + p, RefusedEdges::lived, x -> x.lend(2, person, 9), NONE, 2);
            e.refuses("lend of one lent twice to " + p, RefusedEdges::lived, x -> x.lend(0, person, 9), NONE, 2);
        }
        e.refuses("lend to its first", RefusedEdges::lived, x -> x.lend(1, 1, 9), NONE, 2);
        e.refuses("lend to its holder", RefusedEdges::lived, x -> x.lend(1, 2, 9), NONE, 2);
        for (int due : new int[] {31, 5, 4, 0, -1, 61, LEAST, MOST})
            e.refuses("lend till " + due, RefusedEdges::lived, x -> x.lend(1, 3, due), NONE, 2);
        e.refuses("lend on the last day", RefusedEdges::lastDay, x -> x.lend(3, 0, 60), NONE, 2);
        e.refuses("back of the first", RefusedEdges::lived, x -> x.back(3), NONE, 2);
        e.refuses("back of a lost thing", RefusedEdges::lived, x -> x.back(2), NONE, 2);
        e.refuses("lose of a lost thing", RefusedEdges::lived, x -> x.lose(2) ? 1 : 0, 0, 2);
        for (int n : new int[] {0, -1, 56, 60, 61, LEAST, MOST})
            e.refuses("go " + n, RefusedEdges::lived, x -> x.go(n), NONE, 2);
        e.refuses("go 0 on the last day", RefusedEdges::lastDay, x -> x.go(0), NONE, 2);
        e.refuses("go without a land", RefusedEdges::begun, x -> x.go(1), NONE, 2);
        for (int p = 0; p < 4; p++) {
            int person = p;
            e.refuses("entry of " + p + " to itself", RefusedEdges::lived, x -> x.entry(person, person), NONE, 2);
        }
        e.refuses("undo of none", RefusedEdges::fresh, x -> x.undo(), NONE, 2);
        e.refuses("undo without a land", RefusedEdges::begun, x -> x.undo(), NONE, 2);
        for (int k = 0; k < 3; k++) {
            int image = k;
            e.refuses("image " + k + " without a land", RefusedEdges::begun, x -> x.image(image) ? 1 : 0, 0, 2);
        }
    }

    private void leastReason() {
        e.of("Terms 6", "else 2 it can't be otherwise");
        e.refuses("entry of nobody into a full book", RefusedEdges::bookFull, x -> x.entry(4, 0), NONE, 0);
        e.refuses("entry of nobody to itself", RefusedEdges::bookFull, x -> x.entry(-1, -1), NONE, 0);
        e.refuses("entry of one to itself into a full book", RefusedEdges::bookFull, x -> x.entry(0, 0), NONE, 1);
        e.refuses("lend of a lost thing to nobody", RefusedEdges::lived, x -> x.lend(2, 4, 9), NONE, 0);
        e.refuses("lend to nobody till no day", RefusedEdges::lived, x -> x.lend(1, 4, 61), NONE, 0);
        e.refuses("lend of no thing till no day", RefusedEdges::lived, x -> x.lend(4, 1, 0), NONE, 0);
    }

    private void asksAreNotRefused() {
        e.of("Terms 6", "REFUSED is each call that would change something and doesn't:");
        for (int wrong : new int[] {-1, 99, LEAST, MOST}) {
            e.asks("person", RefusedEdges::lived, x -> x.person(wrong, 0), NONE);
            e.asks("want", RefusedEdges::lived, x -> x.want(wrong, 0), NONE);
            e.asks("thing", RefusedEdges::lived, x -> x.thing(wrong, 0), NONE);
            e.asks("chain", RefusedEdges::lived, x -> x.chain(0, wrong, 0), NONE);
            e.asks("owes", RefusedEdges::lived, x -> x.owes(wrong, 0), NONE);
            e.asks("balance", RefusedEdges::lived, x -> x.balance(wrong), Edges.VOID);
            e.asks("met", RefusedEdges::lived, x -> x.met(wrong), NONE);
            e.asks("shorts", RefusedEdges::lived, x -> x.shorts(wrong), NONE);
            e.asks("price", RefusedEdges::lived, x -> x.price(0, wrong), NONE);
            e.asks("longer", RefusedEdges::lived, x -> x.longer(0, wrong), NONE);
            e.asks("given", RefusedEdges::lived, x -> x.given(wrong), NONE);
            e.asks("carry", RefusedEdges::lived, x -> x.carry(wrong, 1), NONE);
            e.asks("moves", RefusedEdges::lived, x -> x.moves(0, wrong, 0), NONE);
            e.asks("late", RefusedEdges::lived, x -> x.late(0, wrong, 0), NONE);
            e.asks("bears", RefusedEdges::lived, x -> x.bears(wrong), NONE);
            e.asks("dies", RefusedEdges::lived, x -> x.dies(0, wrong, 0), NONE);
            e.asks("earth", RefusedEdges::lived, x -> x.earth(wrong), NONE);
            e.asks("years", RefusedEdges::lived, x -> x.years(0, wrong, 0), NONE);
            e.asks("status", RefusedEdges::lived, x -> x.status(wrong), NONE);
            e.asks("count", RefusedEdges::lived, x -> x.count(wrong), NONE);
        }
        e.asks("price", RefusedEdges::lived, x -> x.price(1, 30), 0);
        e.asks("longer", RefusedEdges::lived, x -> x.longer(0, 51), 0);
        e.asks("carry with one hand", RefusedEdges::lived, x -> x.carry(0, 1), 60 + 178);
        e.asks("late", RefusedEdges::lived, x -> x.late(2, 60, 0), 0);
        e.asks("dies", RefusedEdges::lived, x -> x.dies(2, 6, 0), 2);
        e.asks("years", RefusedEdges::lived, x -> x.years(0, 20, 64), 400);
        e.asks("fault", RefusedEdges::faulty, x -> x.fault(), 11);
        e.asks("fault without one", RefusedEdges::lived, x -> x.fault(), NONE);
        e.asks("met without a land", RefusedEdges::none, x -> x.met(0), NONE);
        e.asks("other without a land", RefusedEdges::begun, x -> x.other(), NONE);
        e.asks("spread without a land", RefusedEdges::begun, x -> x.spread(), NONE);
    }

    private void doneIsNotRefused() {
        e.of("Terms 6", "REFUSED is each call that would change something and doesn't");
        e.asks("end of all", RefusedEdges::lived, x -> x.end(20) ? 1 : 0, 1);
        e.asks("end of nothing", RefusedEdges::none, x -> x.end(0) ? 1 : 0, 1);
        e.asks("the law that is", RefusedEdges::lived, x -> x.law(1) ? 1 : 0, 1);
        e.asks("an image as it is", RefusedEdges::lived, x -> {
            x.on(2);
            return x.on(2) ? 1 : 0;
        }, 1);
    }

    // ---- promises

    private void statusPromise() {
        e.of("Promise 35", "How many were REFUSED for a reason (0 .. 2); NONE for others.");
        OnlyLent x = new OnlyLent();
        e.statuses(x, 0, 0, 0);
        for (int wrong : new int[] {-1, 3, LEAST, MOST}) e.due("status(" + wrong + ")", x.status(wrong), NONE);
        x.law(2);
        e.statuses(x, 1, 0, 0);
        x.undo();
        x.undo();
        e.statuses(x, 1, 0, 2);
        for (int i = 0; i < 28; i++) x.feed(0, 0, 0, 0, 0);
        e.statuses(x, 1, 3, 2);
        x.end(0);
        Check.feed(x, LAND);
        x.land();
        e.statuses(x, 1, 3, 2);
        x.image(0);
        x.back(0);
        x.on(0);
        e.statuses(x, 1, 3, 3);
        OnlyLent other = new OnlyLent();
        e.statuses(other, 0, 0, 0);
    }

    private void countPromise() {
        e.of("Promise 36", "0 PEOPLE, 1 SORTS, 2 THINGS, 3 WANTS, 4 DAY, 5 CARRIED, 6 H, 7 C, 8 LAW, 9 ENTRIES, 10 bytes of the text.");
        OnlyLent x = lived();
        int[] counts = {4, 2, 4, 3, 5, 10 + 89 + 20 + 30, 2, 4, 1, 2, 20};
        for (int what = 0; what < counts.length; what++) e.due("count(" + what + ")", x.count(what), counts[what]);
        e.of("Promise 36", "NONE for others.");
        for (int wrong : new int[] {-1, 11, LEAST, MOST}) {
            e.due("count(" + wrong + ")", x.count(wrong), NONE);
            e.due("count(" + wrong + ") without a land", new OnlyLent().count(wrong), NONE);
        }
        e.of("Promise 36", "(0 .. 9: 0 without a LAND.)");
        OnlyLent y = begun();
        y.law(1);
        for (int what = 0; what < 10; what++) e.due("count(" + what + ")", y.count(what), 0);
        e.due("count(10)", y.count(10), 11);
        e.statuses(x, 0, 0, 0);
    }

    private void at512Calls() {
        e.of("What it is", "An object is used for at most 512 calls after it has been made");
        OnlyLent x = new OnlyLent();
        for (int i = 0; i < 511; i++) x.law(2);
        e.due("the 512th call", x.status(0), 511);
        OnlyLent y = lived();
        int fed = 3 + (LAND.length() + 19) / 20;
        for (int calls = fed + 14; calls < 506; calls++) y.years(calls, 20, calls % 65);
        e.due("met", y.met(0), 7);
        e.due("earth", y.earth(2), 3);
        e.due("on", y.on(0), true);
        e.due("the day", y.count(4), 0);
        e.due("land", y.land(), 1);
        e.due("bytes", y.count(10), 0);
    }
}
