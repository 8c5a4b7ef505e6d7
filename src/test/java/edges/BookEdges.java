/** The edges of the book and of years: Terms 6, promises 29 to 32. */
final class BookEdges {
    private static final int NONE = Edges.NONE;
    private static final int LEAST = Edges.LEAST;
    private static final int MOST = Edges.MOST;
    private static final String FOUR = "person a 0;person b 1;person c 2;person d 3;sort s 1;";
    private static final String EIGHT = FOUR + "person e 4;person f 5;person g 6;person h 7;";
    private static final String ONE = "person a 0;person b 10;person c 30;sort s 5;thing s a;";
    // Thing 0 goes to want 1 and then to want 0, thing 1 to want 2.
    private static final String YEARS = ONE + "thing s a;want b s 5 9 10;want b s 0 5 20;want c s 0 9 1;";

    private final Edges e;

    BookEdges(Edges e) {
        this.e = e;
    }

    void run() {
        atMostTenEntries();
        trueTogether();
        notUpToTheGiver();
        earthWithTheMost();
        likeHeapsTheLeast();
        seedsAndLots();
        lotsOfAYear();
        lostBelowQ();
        toldOfAllYears();
        entryPromise();
        undoPromise();
        earthPromise();
        yearsPromise();
    }

    /** The book's row: EARTH, how many are true, which, rivals. */
    private void book(String text, int[][] entries, int... row) {
        OnlyLent x = Check.lent(text);
        StringBuilder told = new StringBuilder();
        for (int[] entry : entries) {
            x.entry(entry[0], entry[1]);
            told.append(' ').append(entry[0]).append('-').append(entry[1]);
        }
        for (int what = 0; what < 4; what++) e.due("earth(" + what + ") of" + told, x.earth(what), row[what]);
    }

    private static int[][] entries(int... pairs) {
        int[][] entries = new int[pairs.length / 2][];
        for (int i = 0; i < entries.length; i++) entries[i] = new int[] {pairs[2 * i], pairs[2 * i + 1]};
        return entries;
    }

    // ---- Terms 6: the book

    private void atMostTenEntries() {
        e.of("Terms 6", "The BOOK is of one THING: at most 10 ENTRIES in their order: from a PERSON to another one.");
        OnlyLent x = Check.lent(FOUR);
        for (int i = 1; i <= 10; i++) e.due("entry " + i, x.entry(0, i % 3 + 1), i);
        e.due("an eleventh", x.entry(0, 1), NONE);
        e.due("all ten are true", x.earth(1), 10);
        e.due("as bits", x.earth(2), 1023);
        x.undo();
        e.due("a tenth again", x.entry(1, 0), 10);
        e.due("to itself", Check.lent(FOUR).entry(3, 3), NONE);
        book(FOUR, entries(0, 1, 1, 2), 0, 2, 3, 1);
        book(FOUR, entries(1, 2, 0, 1), 0, 1, 2, 3);
        OnlyLent noThing = Check.lent("person a 0;person b 0;sort s 1;");
        e.due("without a thing in the land", noThing.entry(0, 1), 1);
        e.due("its earth", noThing.earth(0), 0);
        OnlyLent one = Check.lent("person a 0;sort s 1;");
        e.due("of one person", one.entry(0, 0), NONE);
        e.due("its earth", one.earth(3), 1);
    }

    private void trueTogether() {
        e.of("Terms 6", "TRUE together are ENTRIES, if with some first PERSON each has its giver in the CHAIN then (those behind the giver have given it back),");
        book(FOUR, entries(), 0, 0, 0, 15);
        book(FOUR, entries(1, 2), 1, 1, 1, 2);
        book(FOUR, entries(0, 1, 0, 2, 0, 3), 0, 3, 7, 1);
        book(FOUR, entries(0, 1, 1, 2, 0, 3, 2, 1), 0, 3, 7, 1);
        book(FOUR, entries(0, 1, 1, 2, 0, 3, 1, 2), 0, 3, 7, 1);
        book(FOUR, entries(0, 1, 1, 2, 0, 2), 0, 3, 7, 1);
        book(FOUR, entries(0, 1, 1, 2, 0, 3, 1, 2), 0, 3, 7, 1);
        book(FOUR, entries(0, 1, 1, 2, 2, 3, 1, 3, 2, 0), 0, 4, 15, 1);
        book(FOUR, entries(0, 1, 1, 2, 2, 3, 0, 3, 3, 2, 2, 1), 0, 6, 63, 1);
        book(EIGHT, entries(0, 1, 1, 2, 2, 3, 3, 4, 4, 5, 5, 6, 6, 7, 3, 7, 7, 6, 6, 5), 0, 10, 1023, 1);
        book(FOUR + "hands 1;", entries(0, 1, 1, 2, 2, 3), 0, 3, 7, 1);
    }

    private void notUpToTheGiver() {
        e.of("Terms 6", "and who gets it is not in it up to the giver.");
        book(FOUR, entries(0, 1, 1, 0), 0, 1, 1, 3);
        book(FOUR, entries(0, 1, 1, 2, 2, 0), 0, 2, 3, 3);
        book(FOUR, entries(0, 1, 1, 2, 2, 1), 0, 2, 3, 1);
        book(FOUR, entries(0, 1, 1, 2, 2, 3, 1, 3), 0, 4, 15, 1);
        book(FOUR, entries(0, 1, 0, 1), 0, 2, 3, 1);
        book(FOUR, entries(0, 1, 1, 2, 0, 1), 0, 3, 7, 1);
        book(EIGHT, entries(7, 6, 6, 5, 5, 4, 4, 3, 3, 2, 2, 1, 1, 0, 0, 7), 6, 7, 254, 192);
    }

    private void earthWithTheMost() {
        e.of("Terms 6", "EARTH is the PERSON with whom the most are TRUE together, of like ones the least; RIVALS are all with whom as many are (bits);");
        book(FOUR, entries(3, 2), 3, 1, 1, 8);
        book(FOUR, entries(3, 2, 2, 3), 2, 1, 2, 12);
        book(FOUR, entries(2, 1, 1, 2, 2, 0), 1, 2, 6, 6);
        book(FOUR, entries(0, 1, 1, 2, 2, 3, 3, 0), 0, 3, 7, 3);
        book(FOUR, entries(0, 1, 1, 0, 2, 3, 3, 2), 0, 1, 1, 15);
        book(EIGHT, entries(7, 0), 7, 1, 1, 128);
        book(EIGHT, entries(), 0, 0, 0, 255);
        book("person a 0;sort s 1;", entries(), 0, 0, 0, 1);
    }

    private void likeHeapsTheLeast() {
        e.of("Terms 6", "the ENTRIES: those, of like heaps the least as bits, with the EARTH.");
        book(FOUR, entries(0, 1, 0, 2, 1, 3), 0, 2, 3, 1);
        book(FOUR, entries(0, 2, 0, 1, 2, 3, 3, 1), 0, 3, 13, 1);
        book(FOUR, entries(0, 2, 0, 1, 2, 3, 1, 3), 0, 3, 11, 1);
        book(FOUR, entries(1, 0, 0, 1, 0, 2, 1, 3), 1, 3, 13, 2);
        book(FOUR, entries(0, 1, 0, 2, 1, 3, 2, 3, 3, 2), 0, 3, 11, 1);
    }

    // ---- Terms 6: years

    private void seedsAndLots() {
        e.of("Terms 6", "YEARS: x comes of a seed (0 .. 1000000); each time x becomes the lowest 31 bits of x * 1103515245 + 12345; a lot below n is x by 256 (cut), rest by n.");
        OnlyLent x = Check.lent(ONE + "want b s 0 5 20;want b s 5 9 10;");
        int[] seeds = {0, 1, 999999, 1000000};
        int[] first = {48, 62, 23, 37};
        for (int i = 0; i < 4; i++) {
            e.due("a lot that is not below", x.years(seeds[i], 1, first[i]), 30);
            e.due("a lot that is below", x.years(seeds[i], 1, first[i] + 1), 20);
        }
        OnlyLent y = Check.lent(YEARS);
        int[][] told = {{620, 540, 430, 21, 21}, {620, 540, 420, 21, 21}, {620, 530, 420, 21, 21}, {620, 550, 430, 21, 21}};
        for (int i = 0; i < 4; i++) {
            e.due("twenty years, q 1", y.years(seeds[i], 20, 1), told[i][0]);
            e.due("twenty years, q 30", y.years(seeds[i], 20, 30), told[i][1]);
            e.due("twenty years, q 63", y.years(seeds[i], 20, 63), told[i][2]);
            e.due("one year, q 64", y.years(seeds[i], 1, 64), told[i][3]);
            e.due("one year, q 63", y.years(seeds[i], 1, 63), told[i][4]);
        }
        OnlyLent z = Check.lent(ONE + "sort t 1;thing t a;sort u 1;thing u a;" + wants("s", 6, 99) + wants("t", 5, 50) + wants("u", 1, 7));
        int[][] all = {{15979, 13293, 6944, 3120}, {16820, 12659, 6993, 3120}, {16324, 13097, 7141, 3120}, {16620, 12207, 7488, 3219}};
        int[] qs = {1, 8, 30, 63};
        for (int i = 0; i < 4; i++)
            for (int k = 0; k < 4; k++) e.due("twelve wants, seed " + seeds[i] + ", q " + qs[k], z.years(seeds[i], 20, qs[k]), all[i][k]);
    }

    private static String wants(String sort, int n, int weight) {
        StringBuilder text = new StringBuilder();
        for (int i = 0; i < n; i++)
            text.append("want a ").append(sort).append(' ').append(i).append(' ').append(i + 1).append(' ').append(weight).append(';');
        return text.toString();
    }

    private void lotsOfAYear() {
        // Of the seed 0 come the lots 48, 22, 39, 28, 22, 28, 34, 15, 45.
        e.of("Terms 6", "In a YEAR each GIVEN THING, by numbers, has a lot below 64 for each of its WANTS in their order:");
        OnlyLent x = Check.lent(YEARS);
        int[] things = {0, 0, 1};
        for (int w = 0; w < 3; w++) e.due("given(" + w + ")", x.given(w), things[w]);
        e.due("the second lot is of its second want", x.years(0, 1, 23), 31);
        OnlyLent y = Check.lent(ONE + "thing s a;want c s 0 9 1;want b s 5 9 10;want b s 0 5 20;");
        int[] turned = {0, 1, 1};
        for (int w = 0; w < 3; w++) e.due("given(" + w + ")", y.given(w), turned[w]);
        e.due("the second lot is of the first want of the second thing", y.years(0, 1, 23), 21);
        OnlyLent z = Check.lent(ONE + "thing s a;want b s 5 9 10;want b s 0 5 20;want b s 0 5 3;");
        e.due("one that isn't given has no lot", z.given(2), 1);
        e.due("three lots", z.years(0, 1, 28), 33);
        z.lose(0);
        e.due("a lost thing has no lots", z.years(0, 1, 28), 30);
        e.due("nothing given", Check.lent(ONE).years(0, 20, 64), 0);
    }

    private void lostBelowQ() {
        e.of("Terms 6", "below q it is LOST with that PERSON, and the WANTS behind it are not MET (no lots for them).");
        OnlyLent x = Check.lent(YEARS);
        e.due("none below 0", x.years(0, 20, 0), 620);
        e.due("all below 64", x.years(0, 20, 64), 420);
        e.due("48 is not below 48", x.years(0, 1, 48), 31);
        e.due("48 is below 49", x.years(0, 1, 49), 21);
        e.due("in the second year the first lot is 28", x.years(0, 2, 28), 62);
        e.due("and below 29", x.years(0, 2, 29), 52);
        e.due("there were no lots for those behind, so the third year's first lot is 28", x.years(0, 3, 29), 73);
        e.due("nothing is lost behind the years", x.thing(0, 5), 0);
        e.due("met as ahead", x.met(0), 7);
        e.due("the same years once more", x.years(0, 3, 29), 73);
    }

    private void toldOfAllYears() {
        e.of("Terms 6", "What is told is W of all WANTS that were MET (that one too) in all YEARS.");
        OnlyLent x = Check.lent(ONE + "want b s 0 5 99;want b s 0 5 98;");
        for (int n : new int[] {1, 2, 19, 20}) {
            for (int q : new int[] {0, 64}) e.due("years(0, " + n + ", " + q + ")", x.years(0, n, q), 99 * n);
        }
        OnlyLent y = Check.lent(ONE + "sort t 1;thing t a;" + wants("s", 6, 99) + wants("t", 6, 99));
        e.due("twelve wants in twenty years", y.years(0, 20, 0), 23760);
        e.due("the first of each thing in twenty years", y.years(0, 20, 64), 3960);
    }

    // ---- promises

    private void entryPromise() {
        e.of("Promise 29", "An ENTRY: how many there are; NONE (REFUSED; 1: 10 are room).");
        OnlyLent x = Check.lent(FOUR);
        for (int wrong : new int[] {-1, 4, 8, LEAST, MOST}) {
            e.due("entry(" + wrong + ", 0)", x.entry(wrong, 0), NONE);
            e.due("entry(0, " + wrong + ")", x.entry(0, wrong), NONE);
            e.due("entry(" + wrong + ", " + wrong + ")", x.entry(wrong, wrong), NONE);
        }
        e.statuses(x, 15, 0, 0);
        for (int p = 0; p < 4; p++) e.due("entry(" + p + ", " + p + ")", x.entry(p, p), NONE);
        e.statuses(x, 15, 0, 4);
        for (int i = 1; i <= 10; i++) e.due("entry(3, 0)", x.entry(3, 0), i);
        e.due("an eleventh", x.entry(0, 3), NONE);
        e.due("an eleventh to itself", x.entry(0, 0), NONE);
        e.statuses(x, 15, 2, 4);
        e.due("an eleventh of nobody", x.entry(0, 4), NONE);
        e.statuses(x, 16, 2, 4);
        e.due("entries", x.count(9), 10);
        OnlyLent none = new OnlyLent();
        e.due("without a land", none.entry(0, 1), NONE);
        e.statuses(none, 1, 0, 0);
    }

    private void undoPromise() {
        e.of("Promise 30", "The last ENTRY is taken back: how many there are; NONE (REFUSED, 2) without.");
        OnlyLent x = Check.lent(FOUR);
        e.due("of none", x.undo(), NONE);
        e.statuses(x, 0, 0, 1);
        for (int i = 0; i < 10; i++) x.entry(0, 1);
        for (int i = 9; i >= 0; i--) {
            e.due("undo()", x.undo(), i);
            e.due("true", x.earth(1), i);
            e.due("which", x.earth(2), (1 << i) - 1);
        }
        e.due("of none again", x.undo(), NONE);
        e.statuses(x, 0, 0, 2);
        e.due("a first one again", x.entry(2, 3), 1);
        e.due("its earth", x.earth(0), 2);
        OnlyLent none = new OnlyLent();
        e.due("without a land", none.undo(), NONE);
        e.statuses(none, 0, 0, 1);
    }

    private void earthPromise() {
        e.of("Promise 31", "EARTH (what 0), how many ENTRIES are TRUE (1), which (2, bits), RIVALS (3); NONE for others, or without a LAND.");
        book(FOUR, entries(1, 2, 2, 3, 0, 1), 1, 2, 3, 2);
        OnlyLent x = Check.lent(FOUR);
        for (int wrong : new int[] {-1, 4, LEAST, MOST}) e.due("earth(" + wrong + ")", x.earth(wrong), NONE);
        for (int what = -1; what < 5; what++) e.due("earth(" + what + ") without a land", new OnlyLent().earth(what), NONE);
        e.statuses(x, 0, 0, 0);
    }

    private void yearsPromise() {
        e.of("Promise 32", "YEARS (n 1 .. 20) with q of 64 (0 .. 64); NONE if they can't be, or without a LAND.");
        OnlyLent x = Check.lent(YEARS);
        e.due("years(0, 1, 0)", x.years(0, 1, 0), 31);
        e.due("years(1000000, 20, 64)", x.years(1000000, 20, 64), 420);
        for (int wrong : new int[] {-1, 1000001, LEAST, MOST}) e.due("years(" + wrong + ", 1, 0)", x.years(wrong, 1, 0), NONE);
        for (int wrong : new int[] {-1, 0, 21, LEAST, MOST}) e.due("years(0, " + wrong + ", 0)", x.years(0, wrong, 0), NONE);
        for (int wrong : new int[] {-1, 65, LEAST, MOST}) e.due("years(0, 1, " + wrong + ")", x.years(0, 1, wrong), NONE);
        e.due("without a land", new OnlyLent().years(0, 1, 0), NONE);
        e.statuses(x, 0, 0, 0);
    }
}
