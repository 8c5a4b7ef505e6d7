/** The edges of chains, days, losses, what is owed, and images: Terms 2 and 6, promises 6, 8 to 16, 33 and 34. */
final class LoanEdges {
    private static final int NONE = Edges.NONE;
    private static final int LEAST = Edges.LEAST;
    private static final int MOST = Edges.MOST;
    private static final String ROAD = "person ann 0;person bob 10;person cyd 30;person dan 99;"
        + "sort saw 7;sort pot 20;thing saw ann;thing saw bob;thing pot cyd;hands 3;";
    private static final String EIGHT = "person a 0;person b 1;person c 2;person d 3;person e 4;person f 5;person g 6;"
        + "person h 7;sort s 1;thing s a;";

    private final Edges e;

    LoanEdges(Edges e) {
        this.e = e;
    }

    void run() {
        chainOfOneAndOfEight();
        lentToNoneInTheChain();
        lentTillADayBehindToday();
        lentNotBehindTheHoldersDay();
        lentToAtMostHands();
        givenBack();
        dayIsOneMore();
        dayAtMost60();
        allLoansTillThatDay();
        carriedStraight();
        carriedLikewise();
        lostStaysLost();
        owedByLaw();
        holderIsTheFirst();
        balanceBelowZero();
        personPromise();
        thingPromise();
        chainPromise();
        lendPromise();
        backPromise();
        goPromise();
        losePromise();
        lawPromise();
        owesPromise();
        balancePromise();
        imageKeeps();
        imagePromise();
        onPromise();
    }

    private void thing(OnlyLent x, int thing, int... row) {
        for (int what = 0; what < row.length; what++) e.due("thing(" + thing + ", " + what + ")", x.thing(thing, what), row[what]);
    }

    // ---- Terms 2: chains

    private void chainOfOneAndOfEight() {
        e.of("Terms 2", "A THING has a CHAIN: whose it is OF THE EARTH, then those to whom it was lent, one by the other, each till a day; the last one is the HOLDER.");
        OnlyLent x = Check.lent(EIGHT);
        thing(x, 0, 0, 0, 0, NONE, 1, 0);
        e.due("the first", x.chain(0, 0, 0), 0);
        for (int p = 1; p < 8; p++) {
            x.lend(0, p, 60 - p);
            thing(x, 0, 0, 0, p, 60 - p, p + 1, 0);
        }
        for (int k = 0; k < 8; k++) {
            e.due("chain(0, " + k + ", 0)", x.chain(0, k, 0), k);
            e.due("chain(0, " + k + ", 1)", x.chain(0, k, 1), k == 0 ? NONE : 60 - k);
        }
        OnlyLent none = Check.lent("person a 0;sort s 1;");
        e.due("no thing", none.thing(0, 2), NONE);
    }

    private void lentToNoneInTheChain() {
        e.of("Terms 2", "It is LENT today by the HOLDER to a PERSON who is not in the CHAIN");
        OnlyLent x = Check.lent(ROAD);
        e.due("to the first, who holds it", x.lend(0, 0, 5), NONE);
        e.due("lend(0, 1, 20)", x.lend(0, 1, 20), 10);
        e.due("lend(0, 2, 20)", x.lend(0, 2, 20), 20);
        for (int p = 0; p < 3; p++) e.due("to one in the chain, " + p, x.lend(0, p, 5), NONE);
        e.statuses(x, 0, 0, 4);
        e.due("to the only one who isn't", x.lend(0, 3, 5), 69);
        e.due("back(0)", x.back(0), 69);
        e.due("to one who has given it back", x.lend(0, 3, 5), 69);
        x.go(5);
        e.due("to one whose loan is over", x.lend(0, 3, 6), 69);
        e.due("another thing to the first of this one", x.lend(1, 0, 9), 10);
        e.due("another thing of this holder", x.lend(2, 3, 9), 69);
        e.statuses(x, 0, 0, 4);
    }

    private void lentTillADayBehindToday() {
        e.of("Terms 2", "till a day behind today (60 at most)");
        OnlyLent x = Check.lent(ROAD);
        for (int due : new int[] {0, -1, 61, 62, LEAST, MOST}) e.due("on day 0 till " + due, x.lend(0, 1, due), NONE);
        e.statuses(x, 0, 0, 6);
        e.due("on day 0 till 1", x.lend(0, 1, 1), 10);
        x.go(5);
        for (int due : new int[] {5, 4, 1, 61}) e.due("on day 5 till " + due, x.lend(0, 1, due), NONE);
        e.due("on day 5 till 6", x.lend(0, 1, 6), 10);
        e.due("on day 5 till 60", x.lend(1, 0, 60), 10);
        x.go(54);
        e.due("on day 59 till 59", x.lend(0, 1, 59), NONE);
        e.due("on day 59 till 60", x.lend(0, 1, 60), 10);
        x.go(1);
        for (int due : new int[] {59, 60, 61}) e.due("on day 60 till " + due, x.lend(2, 0, due), NONE);
    }

    private void lentNotBehindTheHoldersDay() {
        e.of("Terms 2", "not behind that till which the HOLDER has it;");
        OnlyLent x = Check.lent(ROAD);
        x.lend(0, 1, 20);
        e.due("a day behind", x.lend(0, 2, 21), NONE);
        e.due("60", x.lend(0, 2, 60), NONE);
        e.due("the same day", x.lend(0, 2, 20), 20);
        e.due("a day behind that of the third", x.lend(0, 3, 21), NONE);
        e.due("a day ahead", x.lend(0, 3, 19), 69);
        x.back(0);
        x.back(0);
        x.lend(1, 0, 9);
        e.due("behind the day of this holder, ahead of that of another one", x.lend(1, 2, 10), NONE);
        e.due("the holder's own day", x.lend(1, 2, 9), 30);
        e.statuses(x, 0, 0, 4);
        OnlyLent y = Check.lent(ROAD);
        e.due("from the first till 60", y.lend(0, 1, 60), 10);
        e.due("from the second till 60", y.lend(0, 2, 60), 20);
    }

    private void lentToAtMostHands() {
        e.of("Terms 2", "at most H are in a CHAIN behind the first.");
        for (int h = 1; h <= 9; h++) {
            OnlyLent x = Check.lent(EIGHT + "hands " + h + ";");
            for (int p = 1; p < 8; p++) e.due("hands " + h + ", loan " + p, x.lend(0, p, 60), p <= h ? 1 : NONE);
            e.due("hands " + h + ", in the chain", x.thing(0, 4), Math.min(h, 7) + 1);
            if (h < 7) {
                x.back(0);
                e.due("hands " + h + ", when one is back", x.lend(0, 7, 60), 8 - h);
            }
        }
        OnlyLent all = Check.lent(EIGHT);
        for (int p = 1; p < 8; p++) e.due("without hands, loan " + p, all.lend(0, p, 60), 1);
        OnlyLent two = Check.lent(EIGHT + "thing s b;hands 1;");
        e.due("of one thing", two.lend(0, 1, 60), 1);
        e.due("each thing has its own", two.lend(1, 0, 60), 1);
    }

    private void givenBack() {
        e.of("Terms 2", "GIVEN BACK ahead of its day: the HOLDER is the one ahead again.");
        OnlyLent x = Check.lent(ROAD);
        x.lend(0, 3, 20);
        x.lend(0, 1, 10);
        x.go(9);
        e.due("on the day ahead of its day", x.back(0), 89);
        thing(x, 0, 0, 0, 3, 20, 2, 0);
        e.due("not in the chain", x.chain(0, 2, 0), NONE);
        e.due("to the first", x.back(0), 99);
        thing(x, 0, 0, 0, 0, NONE, 1, 0);
        e.due("of the first", x.back(0), NONE);
        x.lend(0, 3, 10);
        x.go(1);
        e.due("on its day it is over", x.back(0), NONE);
        e.statuses(x, 0, 0, 2);
    }

    // ---- Terms 2: days

    private void dayIsOneMore() {
        e.of("Terms 2", "A DAY goes by: the DAY is one more");
        OnlyLent x = Check.lent(ROAD);
        for (int day = 1; day <= 60; day++) {
            e.due("go(1)", x.go(1), 0);
            e.due("the day", x.count(4), day);
        }
    }

    private void dayAtMost60() {
        e.of("Terms 2", "(60 at most); of each THING, by numbers, all loans till that day are over");
        OnlyLent x = Check.lent(ROAD);
        e.due("go(61) from 0", x.go(61), NONE);
        e.due("go(60) from 0", x.go(60), 0);
        e.due("go(1) from 60", x.go(1), NONE);
        e.due("go(60) from 60", x.go(60), NONE);
        e.due("the day", x.count(4), 60);
        OnlyLent y = Check.lent(ROAD);
        y.lend(0, 1, 60);
        y.go(1);
        e.due("go(60) from 1", y.go(60), NONE);
        e.due("go(59) from 1, on whose last day a loan is over", y.go(59), 10);
        thing(y, 0, 0, 0, 0, NONE, 1, 0);
        OnlyLent z = Check.lent(ROAD);
        z.go(59);
        e.due("go(2) from 59", z.go(2), NONE);
        e.due("go(1) from 59", z.go(1), 0);
    }

    private void allLoansTillThatDay() {
        e.of("Terms 2", "all loans till that day are over: the HOLDER is the last one whose loan isn't.");
        OnlyLent x = Check.lent(ROAD);
        x.lend(0, 2, 9);
        x.lend(0, 3, 7);
        x.lend(0, 1, 7);
        x.lend(1, 0, 7);
        x.lend(2, 3, 8);
        e.due("the day ahead", x.go(6), 0);
        thing(x, 0, 0, 0, 1, 7, 4, 0);
        e.due("two of one thing, and one of another", x.go(1), 20 + 10);
        thing(x, 0, 0, 0, 2, 9, 2, 0);
        thing(x, 1, 0, 1, 1, NONE, 1, 0);
        thing(x, 2, 1, 2, 3, 8, 2, 0);
        e.due("the next day", x.go(1), 69);
        thing(x, 0, 0, 0, 2, 9, 2, 0);
        e.due("back to the first", x.go(1), 30);
        thing(x, 0, 0, 0, 0, NONE, 1, 0);
        OnlyLent y = Check.lent(EIGHT);
        for (int p = 1; p < 8; p++) y.lend(0, p, 3);
        e.due("seven loans on one day", y.go(3), 7);
        thing(y, 0, 0, 0, 0, NONE, 1, 0);
        OnlyLent z = Check.lent(ROAD);
        z.lend(0, 3, 60);
        z.lend(0, 2, 60);
        z.lend(0, 1, 60);
        for (int i = 0; i < 3; i++) z.back(0);
        z.lend(0, 3, 5);
        e.due("loans that were given back are no matter, the day ahead", z.go(4), 0);
        e.due("and on the day", z.go(1), 99);
        thing(z, 0, 0, 0, 0, NONE, 1, 0);
    }

    private void carriedStraight() {
        e.of("Terms 2", "It is CARRIED straight to who holds it then: as far as their places are apart.");
        OnlyLent x = Check.lent(ROAD);
        x.lend(0, 3, 5);
        x.lend(0, 1, 5);
        e.due("from 10 to 0, not by 99", x.go(5), 10);
        e.due("carried in all", x.count(5), 99 + 89 + 10);
        OnlyLent y = Check.lent("person a 50;person b 50;person c 0;person d 99;sort s 1;thing s a;thing s c;");
        e.due("from a place to itself", y.lend(0, 1, 5), 0);
        e.due("and back", y.go(5), 0);
        e.due("from one end to the other", y.lend(1, 3, 9), 99);
        e.due("and back", y.go(4), 99);
        e.due("carried in all", y.count(5), 198);
    }

    private void carriedLikewise() {
        e.of("Terms 2", "LENT and GIVEN BACK are CARRIED likewise.");
        OnlyLent x = Check.lent(ROAD);
        e.due("lend(0, 3, 9)", x.lend(0, 3, 9), 99);
        e.due("carried", x.count(5), 99);
        e.due("lend(0, 1, 9)", x.lend(0, 1, 9), 89);
        e.due("carried", x.count(5), 188);
        e.due("back(0)", x.back(0), 89);
        e.due("carried", x.count(5), 277);
        e.due("back(0)", x.back(0), 99);
        e.due("carried", x.count(5), 376);
    }

    private void lostStaysLost() {
        e.of("Terms 2", "A THING that is LOST stays LOST: it isn't LENT, GIVEN BACK or CARRIED, its CHAIN is as it was (no loan is over).");
        OnlyLent x = Check.lent(ROAD);
        x.lend(0, 3, 5);
        x.lend(1, 2, 5);
        e.due("carried", x.count(5), 99 + 20);
        x.lose(0);
        e.due("lend", x.lend(0, 1, 4), NONE);
        e.due("back", x.back(0), NONE);
        e.due("lose", x.lose(0), false);
        e.statuses(x, 0, 0, 3);
        e.due("the other one alone is carried", x.go(5), 20);
        thing(x, 0, 0, 0, 3, 5, 2, 1);
        e.due("through all days", x.go(55), 0);
        thing(x, 0, 0, 0, 3, 5, 2, 1);
        e.due("chain(0, 1, 0)", x.chain(0, 1, 0), 3);
        e.due("chain(0, 1, 1)", x.chain(0, 1, 1), 5);
        e.due("carried", x.count(5), 99 + 20 + 20);
        OnlyLent y = Check.lent(ROAD);
        y.lose(2);
        e.due("one with the first isn't lent", y.lend(2, 0, 5), NONE);
        e.due("one with the first isn't given back", y.back(2), NONE);
        thing(y, 2, 1, 2, 2, NONE, 1, 1);
    }

    // ---- Terms 2: what is owed

    private void owe(OnlyLent x, int[][] table) {
        for (int p = 0; p < table.length; p++)
            for (int q = 0; q < table.length; q++) e.due("owes(" + p + ", " + q + ")", x.owes(p, q), table[p][q]);
    }

    private void owedByLaw() {
        OnlyLent x = Check.lent(ROAD);
        x.lend(0, 1, 20);
        x.lend(0, 3, 20);
        x.lend(0, 2, 20);
        x.lend(1, 3, 20);
        x.lend(2, 0, 20);
        e.of("Terms 2", "OWED for a THING that is LOST, by LAW 0:");
        owe(x, new int[4][4]);
        x.lose(0);
        e.of("Terms 2", "each one in its CHAIN but the first owes the one ahead its worth R;");
        owe(x, new int[][] {{0, 0, 0, 0}, {7, 0, 0, 0}, {0, 0, 0, 7}, {0, 7, 0, 0}});
        x.lose(1);
        x.lose(2);
        owe(x, new int[][] {{0, 0, 20, 0}, {7, 0, 0, 0}, {0, 0, 0, 7}, {0, 14, 0, 0}});
        x.law(1);
        e.of("Terms 2", "by LAW 1: the HOLDER owes the first alone.");
        owe(x, new int[][] {{0, 0, 20, 0}, {0, 0, 0, 0}, {7, 0, 0, 0}, {0, 7, 0, 0}});
        x.law(0);
        owe(x, new int[][] {{0, 0, 20, 0}, {7, 0, 0, 0}, {0, 0, 0, 7}, {0, 14, 0, 0}});
        OnlyLent y = Check.lent(EIGHT);
        for (int p = 1; p < 8; p++) y.lend(0, p, 60);
        y.lose(0);
        int[][] links = new int[8][8];
        for (int p = 1; p < 8; p++) links[p][p - 1] = 1;
        owe(y, links);
        y.law(1);
        int[][] alone = new int[8][8];
        alone[7][0] = 1;
        owe(y, alone);
    }

    private void holderIsTheFirst() {
        e.of("Terms 2", "If the HOLDER is the first, nobody owes.");
        for (int law = 0; law < 2; law++) {
            OnlyLent x = Check.lent(ROAD);
            x.law(law);
            x.lend(0, 1, 5);
            x.back(0);
            x.lend(1, 0, 5);
            x.go(5);
            for (int t = 0; t < 3; t++) x.lose(t);
            owe(x, new int[4][4]);
            for (int p = 0; p < 4; p++) e.due("balance(" + p + ")", x.balance(p), 0);
        }
    }

    private void balanceBelowZero() {
        e.of("Terms 2", "A PERSON's BALANCE is what is OWED to it by all, less what it owes.");
        StringBuilder text = new StringBuilder("person a 0;person b 1;person c 2;sort s 99;sort t 99;sort u 99;");
        for (int i = 0; i < 4; i++) text.append("thing s a;thing t a;thing u a;");
        for (int law = 0; law < 2; law++) {
            OnlyLent x = Check.lent(text.toString());
            x.law(law);
            for (int t = 0; t < 12; t++) {
                x.lend(t, 1, 60);
                x.lend(t, 2, 60);
            }
            for (int t = 0; t < 12; t++) x.lose(t);
            e.due("all that can be owed", x.owes(law == 0 ? 1 : 2, 0), 1188);
            e.due("balance of the first", x.balance(0), 1188);
            e.due("balance between", x.balance(1), 0);
            e.due("balance of the last", x.balance(2), -1188);
        }
    }

    // ---- promises 6, 8, 9

    private void personPromise() {
        e.of("Promise 6", "Of a PERSON: 0 X, 1 its heir (NONE), 2 how many THINGS it holds (LOST ones aside).");
        StringBuilder text = new StringBuilder("person a 0;person b 99;sort s 9;sort t 9;sort u 9;heir b a;");
        for (int i = 0; i < 4; i++) text.append("thing s a;thing t a;thing u a;");
        OnlyLent x = Check.lent(text.toString());
        int[] a = {0, NONE, 12};
        int[] b = {99, 0, 0};
        for (int what = 0; what < 3; what++) {
            e.due("person(0, " + what + ")", x.person(0, what), a[what]);
            e.due("person(1, " + what + ")", x.person(1, what), b[what]);
        }
        x.lend(11, 1, 5);
        x.lend(10, 1, 6);
        x.lose(11);
        x.lose(0);
        e.due("a lost one aside, of who holds it", x.person(1, 2), 1);
        e.due("a lost one aside, of whose it is", x.person(0, 2), 9);
        e.of("Promise 6", "NONE for others, or if there is none such.");
        for (int wrong : new int[] {-1, 2, 8, LEAST, MOST}) {
            for (int what = 0; what < 3; what++) e.due("person(" + wrong + ", " + what + ")", x.person(wrong, what), NONE);
        }
        for (int wrong : new int[] {-1, 3, LEAST, MOST}) e.due("person(0, " + wrong + ")", x.person(0, wrong), NONE);
        e.statuses(x, 0, 0, 0);
    }

    private void thingPromise() {
        e.of("Promise 8", "Of a THING: 0 SORT, 1 whose it is OF THE EARTH, 2 the HOLDER, 3 till when it has it (NONE: of the earth), 4 how many are in the CHAIN, 5 whether LOST.");
        OnlyLent x = Check.lent(ROAD);
        thing(x, 0, 0, 0, 0, NONE, 1, 0);
        thing(x, 2, 1, 2, 2, NONE, 1, 0);
        x.lend(2, 0, 60);
        x.lend(2, 3, 1);
        thing(x, 2, 1, 2, 3, 1, 3, 0);
        x.lose(2);
        thing(x, 2, 1, 2, 3, 1, 3, 1);
        thing(x, 1, 0, 1, 1, NONE, 1, 0);
        e.of("Promise 8", "NONE for others, or if there is none such.");
        for (int wrong : new int[] {-1, 3, 12, LEAST, MOST}) {
            for (int what = 0; what < 6; what++) e.due("thing(" + wrong + ", " + what + ")", x.thing(wrong, what), NONE);
        }
        for (int wrong : new int[] {-1, 6, LEAST, MOST}) e.due("thing(0, " + wrong + ")", x.thing(0, wrong), NONE);
        e.statuses(x, 0, 0, 0);
    }

    private void chainPromise() {
        e.of("Promise 9", "The k-th in the CHAIN of a THING: PERSON (what 0), till when (1; NONE of the first);");
        OnlyLent x = Check.lent(ROAD);
        x.lend(1, 3, 30);
        x.lend(1, 0, 12);
        int[][] rows = {{1, NONE}, {3, 30}, {0, 12}};
        for (int k = 0; k < 3; k++)
            for (int what = 0; what < 2; what++) e.due("chain(1, " + k + ", " + what + ")", x.chain(1, k, what), rows[k][what]);
        e.of("Promise 9", "NONE for others, or if there is none such.");
        for (int wrong : new int[] {-1, 3, 7, 8, LEAST, MOST}) {
            e.due("chain(1, " + wrong + ", 0)", x.chain(1, wrong, 0), NONE);
            e.due("chain(1, " + wrong + ", 1)", x.chain(1, wrong, 1), NONE);
        }
        for (int wrong : new int[] {-1, 2, LEAST, MOST}) e.due("chain(1, 0, " + wrong + ")", x.chain(1, 0, wrong), NONE);
        for (int wrong : new int[] {-1, 3, 12, LEAST, MOST}) e.due("chain(" + wrong + ", 0, 0)", x.chain(wrong, 0, 0), NONE);
        x.back(1);
        e.due("one that was given back", x.chain(1, 2, 0), NONE);
        x.go(30);
        e.due("one whose loan is over", x.chain(1, 1, 0), NONE);
        e.due("the first", x.chain(1, 0, 0), 1);
        e.due("of a thing ahead", x.chain(0, 1, 0), NONE);
        e.statuses(x, 0, 0, 0);
    }

    // ---- promises 10 to 16

    private void lendPromise() {
        e.of("Promise 10", "LENT: how far it is CARRIED; NONE (REFUSED).");
        OnlyLent x = Check.lent(ROAD);
        e.due("the first thing to the last person", x.lend(0, 3, 60), 99);
        e.due("the last thing to the first person", x.lend(2, 0, 1), 30);
        e.statuses(x, 0, 0, 0);
        int[] noThing = {-1, 3, 12, LEAST, MOST};
        for (int t : noThing) e.due("lend(" + t + ", 1, 5)", x.lend(t, 1, 5), NONE);
        e.statuses(x, 5, 0, 0);
        int[] nobody = {-1, 4, 8, LEAST, MOST};
        for (int p : nobody) e.due("lend(1, " + p + ", 5)", x.lend(1, p, 5), NONE);
        e.statuses(x, 10, 0, 0);
        e.due("no such person, nor such a day", x.lend(1, 4, 61), NONE);
        e.due("no such thing, nor such a day", x.lend(3, 1, 0), NONE);
        e.statuses(x, 12, 0, 0);
        e.due("no such day", x.lend(1, 2, 61), NONE);
        e.statuses(x, 12, 0, 1);
        thing(x, 1, 0, 1, 1, NONE, 1, 0);
        e.due("carried", x.count(5), 129);
    }

    private void backPromise() {
        e.of("Promise 11", "GIVEN BACK: likewise (REFUSED, 2, also if the HOLDER is the first).");
        OnlyLent x = Check.lent(ROAD);
        e.due("of the first", x.back(0), NONE);
        e.statuses(x, 0, 0, 1);
        for (int t : new int[] {-1, 3, 12, LEAST, MOST}) e.due("back(" + t + ")", x.back(t), NONE);
        e.statuses(x, 5, 0, 1);
        x.lend(0, 1, 5);
        x.lend(2, 3, 5);
        e.due("back(0)", x.back(0), 10);
        e.due("back(0) once more", x.back(0), NONE);
        e.due("back(2)", x.back(2), 69);
        e.statuses(x, 5, 0, 2);
        e.due("carried", x.count(5), 10 + 69 + 10 + 69);
    }

    private void goPromise() {
        e.of("Promise 12", "n DAYS go by (1 .. 60): how far all was CARRIED in them;");
        OnlyLent x = Check.lent(ROAD);
        x.lend(0, 3, 1);
        x.lend(1, 2, 60);
        x.lend(2, 0, 30);
        e.due("go(60)", x.go(60), 99 + 20 + 30);
        e.due("carried", x.count(5), 2 * (99 + 20 + 30));
        OnlyLent y = Check.lent(ROAD);
        y.lend(0, 3, 1);
        e.due("go(1)", y.go(1), 99);
        e.due("go(1), nothing", y.go(1), 0);
        e.of("Promise 12", "NONE (REFUSED), also if there aren't so many, or without a LAND.");
        for (int n : new int[] {0, -1, 61, 59, 60, LEAST, MOST}) e.due("go(" + n + ") from 2", y.go(n), NONE);
        e.statuses(y, 0, 0, 7);
        e.due("go(58) from 2", y.go(58), 0);
        e.due("go(1) from 60", y.go(1), NONE);
        e.due("go(0) from 60", y.go(0), NONE);
        OnlyLent none = new OnlyLent();
        for (int n : new int[] {1, 60, 0, 61}) e.due("go(" + n + ") without a land", none.go(n), NONE);
        e.statuses(none, 0, 0, 4);
        e.due("the day", none.count(4), 0);
    }

    private void losePromise() {
        e.of("Promise 13", "A THING is LOST: true; false (REFUSED), also if it is so already.");
        OnlyLent x = Check.lent(ROAD);
        for (int t : new int[] {-1, 3, 12, 32, LEAST, MOST}) e.due("lose(" + t + ")", x.lose(t), false);
        e.statuses(x, 6, 0, 0);
        e.due("lose(2)", x.lose(2), true);
        e.due("lose(2) again", x.lose(2), false);
        e.due("lose(0)", x.lose(0), true);
        e.due("lose(0) again", x.lose(0), false);
        e.statuses(x, 6, 0, 2);
        int[] lost = {1, 0, 1};
        for (int t = 0; t < 3; t++) e.due("thing(" + t + ", 5)", x.thing(t, 5), lost[t]);
        e.due("the last one that is left", x.lose(1), true);
    }

    private void lawPromise() {
        e.of("Promise 14", "A LAW (0, 1): true; false (REFUSED, 0).");
        OnlyLent x = Check.lent(ROAD);
        for (int law : new int[] {0, 1, 1, 0, 1}) {
            e.due("law(" + law + ")", x.law(law), true);
            e.due("count(8)", x.count(8), law);
        }
        e.statuses(x, 0, 0, 0);
        for (int law : new int[] {-1, 2, LEAST, MOST}) e.due("law(" + law + ")", x.law(law), false);
        e.statuses(x, 4, 0, 0);
        e.due("the law stays", x.count(8), 1);
        OnlyLent none = new OnlyLent();
        e.due("law(1) without a land", none.law(1), true);
        e.due("law(2) without a land", none.law(2), false);
        e.due("count(8)", none.count(8), 0);
        Check.feed(none, ROAD);
        none.land();
        e.due("count(8) of the land", none.count(8), 0);
        e.statuses(none, 1, 0, 0);
    }

    private void owesPromise() {
        e.of("Promise 15", "What a PERSON owes to another one for all that is LOST (0 to itself);");
        OnlyLent x = Check.lent(ROAD);
        x.lend(0, 1, 9);
        x.lend(2, 1, 9);
        x.lend(2, 0, 9);
        x.lose(0);
        x.lose(2);
        owe(x, new int[][] {{0, 20, 0, 0}, {7, 0, 20, 0}, {0, 0, 0, 0}, {0, 0, 0, 0}});
        x.law(1);
        owe(x, new int[][] {{0, 0, 20, 0}, {7, 0, 0, 0}, {0, 0, 0, 0}, {0, 0, 0, 0}});
        e.of("Promise 15", "NONE if there are none such.");
        for (int wrong : new int[] {-1, 4, 8, LEAST, MOST}) {
            e.due("owes(" + wrong + ", 0)", x.owes(wrong, 0), NONE);
            e.due("owes(0, " + wrong + ")", x.owes(0, wrong), NONE);
            e.due("owes(" + wrong + ", " + wrong + ")", x.owes(wrong, wrong), NONE);
        }
        e.statuses(x, 0, 0, 0);
    }

    private void balancePromise() {
        e.of("Promise 16", "BALANCE; VOID if there is none such.");
        OnlyLent x = Check.lent("person a 0;person b 0;sort s 1;thing s a;");
        x.lend(0, 1, 9);
        e.due("balance(0)", x.balance(0), 0);
        x.lose(0);
        e.due("balance(0)", x.balance(0), 1);
        e.due("balance(1), which is as NONE", x.balance(1), -1);
        for (int wrong : new int[] {-1, 2, 8, LEAST, MOST}) e.due("balance(" + wrong + ")", x.balance(wrong), Edges.VOID);
        e.statuses(x, 0, 0, 0);
    }

    // ---- images

    private void imageKeeps() {
        e.of("Terms 6", "An IMAGE (0 .. 2) keeps DAY, CHAINS, CARRIED, LOST and LAW.");
        OnlyLent x = Check.lent(ROAD);
        e.due("image(0), of day 0", x.image(0), true);
        x.lend(0, 1, 20);
        x.go(4);
        e.due("image(1), deeper", x.image(1), true);
        x.lend(0, 3, 20);
        x.go(6);
        x.lose(0);
        x.law(1);
        x.entry(0, 1);
        x.feed(0, 0, 0, 0, 0);
        e.due("image(2), of a lost one", x.image(2), true);
        int[][] held = {{0, 0, 0, 0, NONE, 1, 0}, {4, 10, 0, 1, 20, 2, 0}, {10, 99, 1, 3, 20, 3, 1}};
        for (int k : new int[] {1, 0, 2, 0, 1, 1, 2, 2, 0}) {
            e.due("on(" + k + ")", x.on(k), true);
            e.due("day", x.count(4), held[k][0]);
            e.due("carried", x.count(5), held[k][1]);
            e.due("law", x.count(8), held[k][2]);
            e.due("holder", x.thing(0, 2), held[k][3]);
            e.due("till", x.thing(0, 3), held[k][4]);
            e.due("chain", x.thing(0, 4), held[k][5]);
            e.due("lost", x.thing(0, 5), held[k][6]);
            e.due("the book is not of it", x.count(9), 1);
            e.due("the text is not of it", x.count(10), 20);
        }
        e.due("all days from the first image", x.go(60), 0);
        x.on(1);
        e.due("the loan is till the same day", x.go(15), 0);
        e.due("and over on it", x.go(1), 10);
        x.on(1);
        x.back(0);
        x.lend(0, 2, 5);
        e.due("an image is not changed behind it", x.on(1), true);
        thing(x, 0, 0, 0, 1, 20, 2, 0);
        e.due("met goes with what is lost", x.person(1, 2), 2);
        e.statuses(x, 0, 0, 0);
    }

    private void imagePromise() {
        e.of("Promise 33", "An IMAGE comes: true; false (REFUSED), without a LAND, too.");
        OnlyLent none = new OnlyLent();
        for (int k = 0; k < 3; k++) e.due("without a land", none.image(k), false);
        e.statuses(none, 0, 0, 3);
        e.due("without a land, no such", none.image(3), false);
        e.due("without a land, no such", none.image(-1), false);
        e.statuses(none, 2, 0, 3);
        Check.feed(none, ROAD);
        none.land();
        for (int k = 0; k < 3; k++) e.due("none came without a land", none.on(k), false);
        OnlyLent x = Check.lent(ROAD);
        for (int k = 0; k < 3; k++) e.due("image(" + k + ")", x.image(k), true);
        for (int k : new int[] {-1, 3, LEAST, MOST}) e.due("image(" + k + ")", x.image(k), false);
        e.statuses(x, 4, 0, 0);
        x.go(3);
        e.due("in the place of another", x.image(1), true);
        int[] days = {0, 3, 0};
        for (int k = 0; k < 3; k++) {
            x.on(k);
            e.due("the day of " + k, x.count(4), days[k]);
        }
    }

    private void onPromise() {
        e.of("Promise 34", "An IMAGE is gone on from: true; false (REFUSED, 0) if there is none.");
        OnlyLent none = new OnlyLent();
        for (int k : new int[] {-1, 0, 1, 2, 3, LEAST, MOST}) e.due("on(" + k + ") without a land", none.on(k), false);
        e.statuses(none, 7, 0, 0);
        OnlyLent x = Check.lent(ROAD);
        x.image(1);
        x.go(5);
        for (int k : new int[] {-1, 0, 2, 3, LEAST, MOST}) e.due("on(" + k + ")", x.on(k), false);
        e.statuses(x, 6, 0, 0);
        e.due("the day stays", x.count(4), 5);
        e.due("on(1)", x.on(1), true);
        e.due("the day", x.count(4), 0);
        e.due("on(1) once more", x.on(1), true);
        e.due("what was refused stays", x.status(0), 6);
        Check.feed(x, "person a 1;");
        x.land();
        e.due("behind a land that is refused", x.on(1), true);
        x.end(0);
        Check.feed(x, ROAD);
        x.land();
        e.due("behind a new land", x.on(1), false);
    }
}
