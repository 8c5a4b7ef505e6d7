/** The edges of who gets which thing, of ways, moves and how they are spread: Terms 4, promises 22 to 25. */
final class GivenEdges {
    private static final int NONE = Edges.NONE;
    private static final int LEAST = Edges.LEAST;
    private static final int MOST = Edges.MOST;
    private static final String ONE = "person a 0;person b 10;person c 30;sort s 5;thing s a;";
    private static final String TWO = "person a 0;person b 90;person c 20;person d 45;sort s 5;thing s a;thing s b;";
    private static final String THREE = "person a 0;person b 10;sort s 1;thing s a;thing s a;thing s a;";

    private final Edges e;

    GivenEdges(Edges e) {
        this.e = e;
    }

    void run() {
        noDayInCommon();
        homeOutAndHome();
        atMostHands();
        leastWayWithFewestTimesHome();
        leastWaysThenFirstThings();
        movesOnTheirDays();
        noMoveFromAPlaceToItself();
        exchanged();
        spreadAtMost60();
        spreadNoMoreThanRoad();
        spreadFewestDays();
        spreadCantBe();
        givenPromise();
        carryPromise();
        movesPromise();
        spreadPromise();
    }

    private void given(String text, int... things) {
        OnlyLent x = Check.lent(text);
        for (int w = 0; w < things.length; w++) e.due("given(" + w + ") of " + text, x.given(w), things[w]);
    }

    /** The moves of sort 0, as rows of day, how many, how far, exchanged; on all other days there are none. */
    private void moves(String text, int[]... rows) {
        OnlyLent x = Check.lent(text);
        for (int day = 0; day <= 60; day++) {
            int[] due = {day, 0, 0, 0};
            for (int[] row : rows) due = row[0] == day ? row : due;
            for (int what = 0; what < 3; what++)
                e.due("moves(0, " + day + ", " + what + ") of " + text, x.moves(0, day, what), due[what + 1]);
        }
    }

    private static int[] row(int... numbers) {
        return numbers;
    }

    // ---- Terms 4: given, ways

    private void noDayInCommon() {
        e.of("Terms 4", "GIVEN are THINGS for MET WANTS of a SORT, so that two of one THING have no day in common.");
        given(TWO + "want c s 0 5 1;want c s 5 9 1;", 0, 0);
        given(TWO + "want c s 5 9 1;want c s 0 5 1;", 0, 0);
        given(TWO + "want c s 0 6 1;want c s 5 9 1;", 0, 1);
        given(TWO + "want c s 59 60 1;want c s 58 60 1;", 0, 1);
        given(TWO + "want c s 0 1 1;want c s 0 60 1;", 0, 1);
        given(TWO + "want c s 0 9 1;want c s 3 4 1;want c s 9 10 1;", 0, 1, 0);
        given(TWO + "want c s 0 9 3;want c s 0 9 2;want c s 0 9 1;", 0, 1, NONE);
        given(ONE + "thing s a;thing s a;thing s a;" + "want a s 0 60 1;".repeat(4), 0, 1, 2, 3);
        given(ONE + "want a s 0 10 1;want a s 10 20 1;want a s 20 30 1;want a s 30 40 1;want a s 40 50 1;want a s 50 60 1;", 0, 0, 0, 0, 0, 0);
        given(ONE + "sort t 1;thing t b;thing s a;want a s 0 9 1;want b s 0 9 1;want c t 0 9 1;", 0, 2, 1);
        given(ONE + "sort t 1;want a t 0 9 1;want a s 0 9 1;", NONE, 0);
    }

    private void homeOutAndHome() {
        e.of("Terms 4", "A THING is at first where whose it is OF THE EARTH is; it goes to the PLACE of the first WANT on its A, from there straight to that of the next one on its A, and so on, home behind the last;");
        e.due("nothing is given", Check.lent(ONE).carry(0, NONE), 0);
        e.due("one at home", Check.lent(ONE + "want a s 0 5 1;").carry(0, NONE), 0);
        e.due("one away", Check.lent(ONE + "want c s 0 60 1;").carry(0, NONE), 60);
        e.due("by their A, not by their numbers", Check.lent(ONE + "want c s 20 30 1;want b s 40 50 1;want c s 0 10 1;").carry(0, NONE), 60);
        e.due("there and back again", Check.lent(ONE + "want c s 0 10 1;want b s 20 30 1;want c s 40 50 1;").carry(0, NONE), 100);
        moves(ONE + "want c s 20 30 1;want b s 0 10 1;", row(0, 1, 10, 10), row(20, 1, 20, 20), row(30, 1, 30, 30));
        OnlyLent x = Check.lent(ONE + "want c s 0 60 1;");
        x.lend(0, 1, 60);
        e.due("where whose it is is, not who holds it", x.carry(0, NONE), 60);
    }

    private void atMostHands() {
        e.of("Terms 4", "at most H WANTS without being home between.");
        StringBuilder six = new StringBuilder("person a 0;person b 10;sort s 1;thing s a;");
        for (int i = 0; i < 6; i++) six.append("want b s ").append(2 * i).append(' ').append(2 * i + 1).append(" 1;");
        int[] carried = {120, 60, 40, 40, 40, 20, 20, 20, 20};
        for (int h = 1; h <= 9; h++) {
            OnlyLent x = Check.lent(six + "hands " + h + ";");
            e.due("hands " + h, x.carry(0, NONE), carried[h - 1]);
            for (int other = 1; other <= 9; other++) e.due("hands " + h + ", carry(0, " + other + ")", x.carry(0, other), carried[other - 1]);
        }
        e.due("without hands", Check.lent(six.toString()).carry(0, NONE), 20);
        int[] out = row(0, 1, 10, 10);
        int[] home = row(11, 1, 10, 10);
        moves(six.toString(), out, home);
        moves(six + "hands 6;", out, home);
        moves(six + "hands 5;", out, row(1, 1, 10, 10), row(2, 1, 10, 10), home);
        moves(six + "hands 4;", out, row(3, 1, 10, 10), row(4, 1, 10, 10), home);
        moves(six + "hands 3;", out, row(5, 1, 10, 10), row(6, 1, 10, 10), home);
        moves(six + "hands 2;", out, row(3, 1, 10, 10), row(4, 1, 10, 10), row(7, 1, 10, 10), row(8, 1, 10, 10), home);
        OnlyLent x = Check.lent("person o 0;person a 10;person b 30;person c 20;sort s 1;thing s o;want a s 0 1 1;want b s 2 3 1;want c s 4 5 1;");
        e.due("each alone", x.carry(0, 1), 20 + 60 + 40);
        e.due("the two that are near", x.carry(0, 2), 20 + 30 + 10 + 20);
        e.due("all at once", x.carry(0, 3), 10 + 20 + 10 + 20);
    }

    private void leastWayWithFewestTimesHome() {
        e.of("Terms 4", "Its WAY is the least such, of like ones the one with the fewest times home, of like ones the least as bits (bit i: home behind its i-th WANT).");
        String like = "person o 0;person a 10;sort s 1;thing s o;want a s 0 1 1;want o s 2 3 1;want a s 4 5 1;";
        moves(like, row(0, 1, 10, 10), row(2, 1, 10, 10), row(4, 1, 10, 10), row(5, 1, 10, 10));
        moves(like + "hands 3;", row(0, 1, 10, 10), row(2, 1, 10, 10), row(4, 1, 10, 10), row(5, 1, 10, 10));
        moves(like + "hands 2;", row(0, 1, 10, 10), row(1, 1, 10, 10), row(4, 1, 10, 10), row(5, 1, 10, 10));
        moves(like + "hands 1;", row(0, 1, 10, 10), row(1, 1, 10, 10), row(4, 1, 10, 10), row(5, 1, 10, 10));
        String middle = "person o 50;person a 40;person b 60;sort s 1;thing s o;want a s 0 1 1;want b s 2 3 1;want b s 4 5 1;";
        e.due("past home as far as by home", Check.lent(middle).carry(0, NONE), 40);
        moves(middle, row(0, 1, 10, 10), row(2, 1, 20, 20), row(5, 1, 10, 10));
        moves(middle + "hands 2;", row(0, 1, 10, 10), row(1, 1, 10, 10), row(2, 1, 10, 10), row(5, 1, 10, 10));
        String least = "person o 50;person a 40;person b 60;sort s 1;thing s o;want b s 0 1 1;want b s 2 3 1;want a s 4 5 1;hands 2;";
        moves(least, row(0, 1, 10, 10), row(3, 1, 10, 10), row(4, 1, 10, 10), row(5, 1, 10, 10));
    }

    private void leastWaysThenFirstThings() {
        e.of("Terms 4", "GIVEN so that all WAYS together are least; of like ones the first by the THING of the least WANT, then of the next one.");
        given(TWO + "want b s 0 5 1;want a s 0 5 1;", 1, 0);
        given(TWO + "want b s 0 5 1;", 1);
        given(TWO + "want d s 0 5 1;", 0);
        given(TWO + "person m 46;want m s 0 5 1;", 1);
        given(TWO + "want d s 0 5 1;want d s 0 5 1;", 0, 1);
        given(TWO + "want c s 0 5 1;want d s 0 5 1;want c s 5 9 1;want d s 5 9 1;", 0, 1, 0, 1);
        given(TWO + "want d s 0 5 1;want d s 5 9 1;hands 1;", 0, 0);
        given(TWO + "want d s 5 9 1;want d s 0 5 1;want a s 0 9 1;", 1, 1, 0);
        // The greater way of one want is made good by the other ones.
        given(TWO + "want d s 0 5 1;want c s 3 9 1;", 1, 0);
        given(ONE + "thing s a;want a s 5 9 1;want a s 0 5 1;", 0, 0);
        given(ONE + "thing s a;want a s 3 9 1;want a s 0 5 1;", 0, 1);
        given(ONE + "thing s a;want a s 0 5 1;want a s 0 5 1;want a s 5 9 1;", 0, 1, 0);
        given(ONE + "thing s a;thing s a;want a s 0 9 1;want a s 3 6 1;want a s 5 9 1;want a s 6 7 1;", 0, 1, 2, 1);
        given(ONE + "thing s a;thing s a;thing s a;want a s 5 9 1;want a s 4 9 1;want a s 3 9 1;want a s 2 9 1;", 0, 1, 2, 3);
        OnlyLent x = Check.lent(ONE + "thing s a;thing s a;thing s a;want a s 0 9 1;want a s 0 9 1;");
        x.lose(0);
        x.lose(2);
        e.due("the first that is left", x.given(0), 1);
        e.due("the next that is left", x.given(1), 3);
    }

    // ---- Terms 4: moves

    private void movesOnTheirDays() {
        e.of("Terms 4", "MOVES on a day are all ways of THINGS on it: to a WANT on its A; home on the B of the last WANT");
        moves(ONE);
        moves(ONE + "want b s 0 60 1;", row(0, 1, 10, 10), row(60, 1, 10, 10));
        moves(ONE + "want b s 59 60 1;", row(59, 1, 10, 10), row(60, 1, 10, 10));
        moves(ONE + "thing s a;want b s 0 5 1;want c s 0 5 1;", row(0, 2, 40, 40), row(5, 2, 40, 40));
        moves(ONE + "sort t 1;thing t a;want b t 0 5 1;want c s 0 6 1;", row(0, 1, 30, 30), row(6, 1, 30, 30));
        OnlyLent x = Check.lent(ONE + "thing s b;want b s 0 5 1;want b s 0 5 1;");
        e.due("of two things, one at home", x.moves(0, 0, 0), 1);
        x.lose(1);
        e.due("of the one that is left", x.moves(0, 0, 0), 1);
        e.due("how far", x.moves(0, 0, 1), 10);
        e.due("exchanged", x.moves(0, 0, 2), 10);
        e.due("spread with it alone", x.spread(), 0);
        x.lose(0);
        for (int what = 0; what < 3; what++) e.due("of a lost thing there are none", x.moves(0, 0, what), 0);
        OnlyLent y = Check.lent(ONE + "thing s b;want b s 0 5 1;want b s 0 5 1;");
        for (int what = 0; what < 3; what++) e.due("of one away and one at home", y.moves(0, 5, what), what == 0 ? 1 : 10);
        y.lose(0);
        for (int what = 0; what < 3; what++) e.due("of the one at home alone", y.moves(0, 0, what), 0);
        for (int what = 0; what < 3; what++) e.due("of the one at home alone", y.moves(0, 5, what), 0);
        eachByItsOwnWay();
        e.of("Terms 4", "(home between two WANTS: on the B of the first of them, and out on the A of the other;");
        moves(ONE + "want b s 0 5 1;want c s 7 9 1;hands 1;", row(0, 1, 10, 10), row(5, 1, 10, 10), row(7, 1, 30, 30), row(9, 1, 30, 30));
        moves(ONE + "want b s 0 5 1;want c s 5 9 1;hands 1;", row(0, 1, 10, 10), row(5, 2, 40, 20), row(9, 1, 30, 30));
        moves(ONE + "want b s 0 5 1;want c s 5 9 1;hands 2;", row(0, 1, 10, 10), row(5, 1, 20, 20), row(9, 1, 30, 30));
    }

    /** Two things that are home behind other ones of their wants. */
    private void eachByItsOwnWay() {
        String middle = "person o 50;person a 40;person b 60;sort s 1;sort t 1;thing s o;thing t o;hands 2;";
        String first = "want a X 0 1 1;want b X 2 3 1;want b X 4 5 1;";
        String second = "want b X 0 1 1;want b X 2 3 1;want a X 4 5 1;";
        int[] split = {1, 1, 1, 0, 0, 1};
        int[] behind = {1, 0, 0, 1, 1, 1};
        for (int turn = 0; turn < 2; turn++) {
            OnlyLent x = Check.lent(middle + first.replace('X', turn == 0 ? 's' : 't') + second.replace('X', turn == 0 ? 't' : 's'));
            for (int day = 0; day < 6; day++) {
                e.due("home behind the first want, day " + day, x.moves(turn, day, 0), split[day]);
                e.due("home behind the second want, day " + day, x.moves(1 - turn, day, 0), behind[day]);
            }
        }
    }

    private void noMoveFromAPlaceToItself() {
        e.of("Terms 4", "one from a place to itself is none).");
        moves(ONE + "want a s 0 5 1;");
        moves(ONE + "want a s 0 5 1;want b s 5 9 1;", row(5, 1, 10, 10), row(9, 1, 10, 10));
        moves(ONE + "want b s 0 5 1;want b s 5 9 1;", row(0, 1, 10, 10), row(9, 1, 10, 10));
        moves(ONE + "person d 0;want d s 0 5 1;");
        moves(ONE + "person d 1;want d s 0 5 1;", row(0, 1, 1, 1), row(5, 1, 1, 1));
        moves(ONE + "want a s 0 5 1;want a s 5 9 1;hands 1;");
    }

    private void exchanged() {
        e.of("Terms 4", "EXCHANGED: the least way that these MOVES of a SORT on a day could be, if its THINGS stood for each other: each place from which one goes to some place to which one does.");
        moves(ONE + "want b s 0 5 1;want b s 5 9 1;hands 1;", row(0, 1, 10, 10), row(5, 2, 20, 0), row(9, 1, 10, 10));
        String ends = "person a 0;person z 99;sort s 1;thing s a;";
        moves(ends + "want z s 0 5 1;", row(0, 1, 99, 99), row(5, 1, 99, 99));
        moves(ends + "want z s 0 5 1;want z s 5 9 1;hands 1;", row(0, 1, 99, 99), row(5, 2, 198, 0), row(9, 1, 99, 99));
        moves(ends + "thing s a;want z s 0 5 1;want z s 0 5 1;", row(0, 2, 198, 198), row(5, 2, 198, 198));
        // From 60 to 10 and from 0 to 50, and instead from 60 to 50 and from 0 to 10.
        moves("person a 0;person b 10;person c 60;person d 50;sort s 1;thing s a;thing s b;hands 1;"
            + "want c s 0 5 1;want d s 5 9 1;want b s 5 9 1;", row(0, 1, 50, 50), row(5, 2, 100, 20), row(9, 1, 50, 50));
        // Of another sort one goes the other way, and can't stand for it.
        OnlyLent x = Check.lent(ends + "sort t 1;thing t z;want z s 0 5 1;want a t 0 5 1;");
        for (int sort = 0; sort < 2; sort++) {
            e.due("how far", x.moves(sort, 0, 1), 99);
            e.due("exchanged", x.moves(sort, 0, 2), 99);
        }
        e.due("on another day it is another one", x.moves(0, 5, 2), 99);
    }

    // ---- Terms 4: spread

    private void spread(String text, int days) {
        e.due("spread() of " + text, Check.lent(text).spread(), days);
    }

    private void spreadAtMost60() {
        e.of("Terms 4", "SPREAD: MOVES home behind the last WANT of a THING may be later (60 at most):");
        spread(THREE + "want b s 0 59 1;want b s 1 60 1;road 1;", 0);
        spread(THREE + "want b s 0 59 1;want b s 1 59 1;road 1;", 1);
        spread(THREE + "want b s 0 60 1;want b s 1 60 1;road 1;", NONE);
        spread(THREE + "want b s 0 58 1;want b s 1 58 1;want b s 2 58 1;road 1;", 3);
        spread(THREE + "want b s 0 59 1;want b s 1 59 1;want b s 2 59 1;road 1;", NONE);
        spread(THREE + "want b s 0 60 1;want b s 1 60 1;road 2;", 0);
        spread(THREE + "want b s 0 60 1;want b s 0 60 1;want b s 0 60 1;road 3;", 0);
    }

    private void spreadNoMoreThanRoad() {
        e.of("Terms 4", "so that on no day there are more than C MOVES in all");
        String three = THREE + "want b s 0 9 1;want b s 1 9 1;want b s 2 9 1;";
        spread(three + "road 1;", 3);
        spread(three + "road 2;", 1);
        spread(three + "road 3;", 0);
        spread(three, 0);
        spread(THREE + "sort t 1;thing t a;want b s 0 9 1;want b t 1 9 1;road 1;", 1);
        spread(THREE + "want b s 0 5 1;want b s 5 9 1;want b s 1 5 1;road 1;", 0);
        spread(THREE + "sort t 1;thing t a;want b s 0 5 1;want b t 5 9 1;road 2;", 0);
        spread(THREE + "sort t 1;thing t a;want b s 0 5 1;want b t 5 9 1;road 1;", 1);
        spread(THREE + "want a s 0 5 1;want a s 0 5 1;want b s 0 5 1;road 1;", 0);
        spread(THREE, 0);
        spread(THREE + "road 1;", 0);
        String twelve = "person a 0;person b 1;sort s 1;sort t 1;sort u 1;" + "thing s a;thing t a;thing u a;".repeat(4);
        String wants = "want b s 0 9 1;want b t 0 9 1;want b u 0 9 1;".repeat(4);
        spread(twelve + wants, 0);
        spread(twelve + wants + "road 12;", 0);
        spread(twelve + wants + "road 11;", NONE);
    }

    private void spreadFewestDays() {
        e.of("Terms 4", "and they are the fewest days later together;");
        String late = THREE + "sort t 1;thing t a;thing t a;want b s 0 5 1;want b s 0 5 1;want b s 1 5 1;";
        spread(late + "road 2;", 1);
        spread(late + "want b t 6 9 1;road 2;", 1);
        spread(late + "want b t 6 9 1;want b t 6 9 1;road 2;", 2);
        spread(THREE + "sort t 1;thing t a;want b s 0 5 1;want b t 5 6 1;road 1;", 2);
        spread(THREE + "want b s 0 5 1;want b s 1 6 1;want b s 2 7 1;road 1;", 0);
        spread(THREE + "want b s 0 5 1;want b s 1 5 1;want b s 2 6 1;road 1;", 2);
    }

    private void spreadCantBe() {
        e.of("Terms 4", "none, if that can't be.");
        spread(THREE + "want b s 0 9 1;want b s 0 9 1;road 1;", NONE);
        spread(THREE + "want b s 0 9 1;want b s 0 9 1;road 2;", 0);
        spread(THREE + "want b s 58 60 1;want b s 58 60 1;road 1;", NONE);
        spread(THREE + "want b s 59 60 1;want b s 59 60 1;road 1;", NONE);
        String out = "sort t 1;thing t a;want b t 59 60 1;want b s 0 59 1;";
        spread(THREE + out + "road 1;", NONE);
        spread(THREE + out + "road 2;", 0);
        spread(THREE + "sort t 1;thing t a;want b t 58 59 1;want b s 0 58 1;road 1;", 2);
        spread(THREE + "want b s 0 9 1;want b s 0 9 1;want b s 0 9 1;road 2;", NONE);
        String between = "person a 0;person b 10;sort s 1;thing s a;hands 1;road 1;want b s 0 5 1;";
        spread(between + "want b s 5 9 1;", NONE);
        spread(between + "want b s 6 9 1;", 0);
        spread(between + "want a s 5 9 1;", 0);
    }

    // ---- promises

    private void givenPromise() {
        e.of("Promise 22", "The THING GIVEN for a WANT; NONE if it isn't MET, or there is none such.");
        OnlyLent x = Check.lent(TWO + "want c s 0 5 1;want d s 0 5 2;want d s 0 5 2;");
        int[] things = {NONE, 0, 1};
        for (int w = 0; w < 3; w++) e.due("given(" + w + ")", x.given(w), things[w]);
        for (int wrong : new int[] {-1, 3, 11, 12, LEAST, MOST}) e.due("given(" + wrong + ")", x.given(wrong), NONE);
        StringBuilder text = new StringBuilder(ONE + "sort t 1;sort u 1;sort v 1;thing t a;thing u a;thing v a;thing v a;");
        for (int i = 0; i < 6; i++) text.append("want a s ").append(i).append(' ').append(i + 1).append(" 1;");
        for (int i = 0; i < 6; i++) text.append("want a v ").append(3 * i).append(' ').append(3 * i + 6).append(" 1;");
        OnlyLent y = Check.lent(text.toString());
        for (int w = 0; w < 6; w++) e.due("given(" + w + ")", y.given(w), 0);
        for (int w = 6; w < 12; w++) e.due("given(" + w + ")", y.given(w), 3 + w % 2);
        e.due("without a land", new OnlyLent().given(0), NONE);
        e.statuses(x, 0, 0, 0);
    }

    private void carryPromise() {
        e.of("Promise 23", "All WAYS of a SORT together, as at most h WANTS were allowed without being home (h 1 .. 9, or NONE: H);");
        OnlyLent x = Check.lent(ONE + "want b s 0 1 1;want b s 1 2 1;want b s 4 5 1;hands 2;sort t 1;");
        int[] carried = {60, 40, 20, 20, 20, 20, 20, 20, 20};
        for (int h = 1; h <= 9; h++) e.due("carry(0, " + h + ")", x.carry(0, h), carried[h - 1]);
        e.due("carry(0, NONE)", x.carry(0, NONE), 40);
        e.due("of a sort without things", x.carry(1, NONE), 0);
        e.due("given as with H", x.moves(0, 5, 0), 1);
        e.of("Promise 23", "NONE if there are none such.");
        for (int wrong : new int[] {-2, 0, 10, LEAST, MOST}) e.due("carry(0, " + wrong + ")", x.carry(0, wrong), NONE);
        for (int wrong : new int[] {-1, 2, 3, 4, LEAST, MOST}) e.due("carry(" + wrong + ", NONE)", x.carry(wrong, NONE), NONE);
        e.due("without a land", new OnlyLent().carry(0, 1), NONE);
        e.statuses(x, 0, 0, 0);
    }

    private void movesPromise() {
        e.of("Promise 24", "MOVES of a SORT on a day: how many (what 0), how far (1), EXCHANGED (2);");
        moves(ONE + "want b s 0 60 1;", row(0, 1, 10, 10), row(60, 1, 10, 10));
        e.of("Promise 24", "NONE for others, or if there are none such (day 0 .. 60).");
        OnlyLent x = Check.lent(ONE + "want b s 0 60 1;");
        for (int what = 0; what < 3; what++) {
            for (int wrong : new int[] {-1, 61, LEAST, MOST}) e.due("moves(0, " + wrong + ", " + what + ")", x.moves(0, wrong, what), NONE);
            for (int wrong : new int[] {-1, 1, 3, 4, LEAST, MOST}) e.due("moves(" + wrong + ", 0, " + what + ")", x.moves(wrong, 0, what), NONE);
        }
        for (int wrong : new int[] {-1, 3, LEAST, MOST}) e.due("moves(0, 0, " + wrong + ")", x.moves(0, 0, wrong), NONE);
        e.due("without a land", new OnlyLent().moves(0, 0, 0), NONE);
        e.statuses(x, 0, 0, 0);
    }

    private void spreadPromise() {
        e.of("Promise 25", "SPREAD; NONE if it can't be, or without a LAND.");
        OnlyLent x = new OnlyLent();
        e.due("without a land", x.spread(), NONE);
        Check.feed(x, THREE + "want b s 0 9 1;want b s 0 9 1;road 1;");
        x.land();
        e.due("it can't be", x.spread(), NONE);
        x.lose(0);
        x.lose(1);
        e.due("it can be with one thing", x.spread(), 0);
        x.lose(2);
        e.due("it can be with nothing", x.spread(), 0);
        e.statuses(x, 0, 0, 0);
    }
}
