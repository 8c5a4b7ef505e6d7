/** Each promise of the document, by what it says: ordinary calls, the edges that it names, and wrong ones. */
public final class PromisesTest {
    private static final Check CHECK = new Check("PromisesTest");
    private static final int NONE = OnlyLent.NONE;
    private static final int VOID = OnlyLent.VOID;
    private static final int LEAST = Integer.MIN_VALUE;
    private static final int MOST = Integer.MAX_VALUE;
    private static final String ROAD = "person ann 0;person bob 10;person cyd 30;person dan 99;"
        + "sort saw 7;sort pot 20;thing saw ann;thing saw bob;thing pot cyd;hands 2;road 3;heir ann cyd;";

    private static int promise;

    private static void due(String call, long got, long due) {
        CHECK.due("promise " + promise + ": " + call, got, due);
    }

    private static void due(String call, boolean got, boolean due) {
        due(call, got ? 1 : 0, due ? 1 : 0);
    }

    /** How often the last object refused, for its reasons 0, 1 and 2. */
    private static void refused(OnlyLent x, int noSuch, int noRoom, int notSo) {
        due("status(0)", x.status(0), noSuch);
        due("status(1)", x.status(1), noRoom);
        due("status(2)", x.status(2), notSo);
    }

    private static void newObject() {
        due("NONE", OnlyLent.NONE, -1);
        due("VOID", OnlyLent.VOID, -2147483648L);
        OnlyLent x = new OnlyLent();
        for (int what = 0; what <= 10; what++) due("count(" + what + ")", x.count(what), 0);
        due("person(0, 0)", x.person(0, 0), NONE);
        due("want(0, 0)", x.want(0, 0), NONE);
        due("thing(0, 0)", x.thing(0, 0), NONE);
        due("chain(0, 0, 0)", x.chain(0, 0, 0), NONE);
        due("on(0)", x.on(0), false);
        due("fault()", x.fault(), 0);
        refused(x, 1, 0, 0);
    }

    private static void feed() {
        OnlyLent x = new OnlyLent();
        int[] n = Check.numbers("person a 1;sort s 1;", 0);
        due("feed", x.feed(n[0], n[1], n[2], n[3], n[4]), 20);
        due("fault()", x.fault(), NONE);
        due("feed behind", x.feed(-1, 0, 0, 0, 0), 40);
        due("a byte of 255 begins no token", x.fault(), 20);
        for (int i = 3; i <= 25; i++) due("feed " + i, x.feed(0, 0, 0, 0, 0), 20 * i);
        refused(x, 0, 0, 0);
        due("feed 26", x.feed(0, 0, 0, 0, 0), NONE);
        due("count(10)", x.count(10), 500);
        refused(x, 0, 1, 0);
        due("end(481)", x.end(481), true);
        due("feed with 19 bytes of room", x.feed(0, 0, 0, 0, 0), NONE);
        due("end(480)", x.end(480), true);
        due("feed with 20 bytes of room", x.feed(0, 0, 0, 0, 0), 500);
        refused(x, 0, 2, 0);
    }

    private static void end() {
        OnlyLent x = new OnlyLent();
        due("end(0)", x.end(0), true);
        due("end(1)", x.end(1), false);
        Check.feed(x, "person a 1;");
        due("end(11)", x.end(11), true);
        due("end(12)", x.end(12), false);
        due("end(-1)", x.end(-1), false);
        due("end(least)", x.end(LEAST), false);
        due("end(most)", x.end(MOST), false);
        due("count(10)", x.count(10), 11);
        due("end(7)", x.end(7), true);
        due("count(10)", x.count(10), 7);
        due("fault()", x.fault(), 7);
        refused(x, 0, 0, 5);
    }

    private static void fault(String text, int place) {
        OnlyLent x = new OnlyLent();
        Check.feed(x, text);
        due("fault() of: " + text, x.fault(), place);
        due("land() of: " + text, x.land() == NONE, place != NONE);
        due("bytes left of: " + text, x.count(10), place == NONE ? 0 : text.length());
    }

    private static void faults() {
        String head = "person a 1;person b 2;sort s 1;sort t 1;";
        int n = head.length();
        fault(head, NONE);
        fault("", 0);
        fault("person a 1;", 11);
        fault("person a 1; \n ", 14);
        fault("sort s 1;", 9);
        fault("person\na1;sort s99;", NONE);
        fault("sort s 1;person s0007;", 16);
        fault("sort s 1;person p 0007;", NONE);
        fault("person a 0;person b 99;sort s 1;sort t 99;", NONE);
        fault("person a 100;", 9);
        fault("person a 99999999999999999999;", 9);
        fault("person a 4294967296;", 9);
        fault("person a b;", 9);
        fault("person 1 a;", 7);
        fault("person ;", 7);
        fault("person a ;", 9);
        fault("person a 1 1;", 11);
        fault("person a 1 person", 11);
        fault("person a 1", 10);
        fault("person a", 8);
        fault("person", 6);
        fault("perso", 0);
        fault("persons a 1;", 0);
        fault(";", 0);
        fault("1", 0);
        fault("a", 0);
        fault("Person", 0);
        fault("person A", 7);
        fault("person aB 1;", 8);
        fault("person a\t1;", 8);
        fault("person a 1.5;", 10);
        fault("person abcdefgh 1;sort s 1;", NONE);
        fault("person abcdefghi 1;", 7);
        for (String kept : new String[] {"person", "sort", "thing", "want", "hands", "road", "heir"}) {
            fault("person " + kept + " 1;", 7);
            fault("sort " + kept + " 1;", 5);
        }
        fault(head + "person a 1;", n + 7);
        fault(head + "person s 1;", n + 7);
        fault(head + "sort s 1;", n + 5);
        fault(head + "sort a 1;", n + 5);
        fault(head + "sort u 0;", n + 7);
        fault(head + "sort u 100;", n + 7);
        fault(head + "thing a s;", n + 6);
        fault(head + "thing s t;", n + 8);
        fault(head + "thing u a;", n + 6);
        fault(head + "thing s c;", n + 8);
        fault("person a 1;thing s a;sort s 1;", 17);
        fault(head + "thing s a;thing s b;thing s a;thing s a;", NONE);
        fault(head + "thing s a;thing s b;thing s a;thing s a;thing s a;", n + 46);
        fault(head + "want a s 0 60 1;want b t 59 60 99;", NONE);
        fault(head + "want s a 0 60 1;", n + 5);
        fault(head + "want a a 0 60 1;", n + 7);
        fault(head + "want a s 61 60 1;", n + 9);
        fault(head + "want a s 60 60 1;", n + 12);
        fault(head + "want a s 5 5 1;", n + 11);
        fault(head + "want a s 5 4 1;", n + 11);
        fault(head + "want a s 5 61 1;", n + 11);
        fault(head + "want a s 5 6 0;", n + 13);
        fault(head + "want a s 5 6 100;", n + 13);
        fault(head + "want a s 5 6;", n + 12);
        fault(head + "want a s 5 6 1", n + 14);
        fault(head + "hands 1;road 1;heir a b;heir b a;", NONE);
        fault(head + "hands 9;road 20;", NONE);
        fault(head + "hands 0;", n + 6);
        fault(head + "hands 10;", n + 6);
        fault(head + "hands 1;hands 1;", n + 8);
        fault(head + "road 0;", n + 5);
        fault(head + "road 21;", n + 5);
        fault(head + "road 1;road 1;", n + 7);
        fault(head + "heir a a;", n + 7);
        fault(head + "heir a s;", n + 7);
        fault(head + "heir s a;", n + 5);
        fault(head + "heir a b;heir a b;", n + 14);
        fault(head + "person az 1;sort zzzzzzzz 1;person bz 1;person za 1;", NONE);
        fault(head + "person ab 1;person ba 1;person aa 1;person aab 1;person aab 1;", n + 56);
        lineInLine(head);
        manyFaults();
    }

    /** A line that could stand alone begins where another one has not ended. */
    private static void lineInLine(String head) {
        String[] begun = {"person ", "person c ", "person c 1 ", "sort ", "sort u ", "sort u 1 ", "thing ", "thing s ", "thing s a ",
            "want ", "want a ", "want a s ", "want a s 1 ", "want a s 1 2 ", "want a s 1 2 3 ", "hands ", "hands 1 ", "road ",
            "road 1 ", "heir ", "heir a ", "heir a b "};
        String[] lines = {"person d 1;", "sort v 1;", "thing t b;", "want b t 3 4 5;", "hands 2;", "road 2;", "heir b a;"};
        for (String one : begun)
            for (String line : lines) fault(head + one + line, head.length() + one.length());
    }

    private static void manyFaults() {
        StringBuilder people = new StringBuilder("sort s 1;");
        for (char c = 'a'; c <= 'h'; c++) people.append("person ").append(c).append(" 1;");
        fault(people + "", NONE);
        fault(people + "person i 1;", people.length());
        String sorts = "person a 1;sort s 1;sort t 1;sort u 1;sort v 1;";
        fault(sorts, NONE);
        fault(sorts + "sort w 1;", sorts.length());
        StringBuilder things = new StringBuilder(sorts);
        for (int i = 0; i < 12; i++) things.append("thing ").append("stu".charAt(i / 4)).append(" a;");
        fault(things + "", NONE);
        fault(things + "thing v a;", things.length());
        StringBuilder wants = new StringBuilder(sorts);
        for (int i = 0; i < 6; i++) wants.append("want a s 0 1 1;");
        fault(wants + "", NONE);
        fault(wants + "want a s 0 1 1;", wants.length() + 7);
        for (int i = 0; i < 6; i++) wants.append("want a t 0 1 1;");
        fault(wants + "", NONE);
        fault(wants + "want a u 0 1 1;", wants.length());
    }

    private static void land() {
        OnlyLent x = new OnlyLent();
        due("land()", x.land(), NONE);
        refused(x, 0, 0, 1);
        Check.feed(x, ROAD);
        due("land()", x.land(), 4);
        due("count(10)", x.count(10), 0);
        x.lend(0, 1, 20);
        x.go(3);
        x.lose(0);
        x.law(1);
        x.entry(0, 1);
        x.image(1);
        Check.feed(x, "person a 100;");
        due("land() with a fault", x.land(), NONE);
        due("the text stays", x.count(10), 13);
        due("the land stays", x.count(0), 4);
        due("the day stays", x.count(4), 3);
        due("the book stays", x.count(9), 1);
        due("the law stays", x.count(8), 1);
        x.end(0);
        Check.feed(x, "sort s 5;person a 1;person b 4;thing s b;");
        due("land()", x.land(), 2);
        int[] counts = {2, 1, 1, 0, 0, 0, 9, 20, 0, 0, 0};
        for (int what = 0; what < counts.length; what++) due("count(" + what + ")", x.count(what), counts[what]);
        due("no image of the land ahead", x.on(1), false);
        due("nothing is lost", x.thing(0, 5), 0);
        due("the holder", x.thing(0, 2), 1);
        due("the chain", x.thing(0, 4), 1);
        refused(x, 1, 0, 2);
    }

    private static void person() {
        OnlyLent x = Check.lent(ROAD);
        int[][] rows = {{0, 2, 1}, {10, NONE, 1}, {30, NONE, 1}, {99, NONE, 0}};
        for (int p = 0; p < 4; p++)
            for (int what = 0; what < 3; what++) due("person(" + p + ", " + what + ")", x.person(p, what), rows[p][what]);
        x.lend(0, 1, 20);
        due("holds two", x.person(1, 2), 2);
        due("holds none", x.person(0, 2), 0);
        x.lose(1);
        due("without the lost one", x.person(1, 2), 1);
        for (int wrong : new int[] {-1, 4, LEAST, MOST}) due("person(" + wrong + ", 0)", x.person(wrong, 0), NONE);
        for (int wrong : new int[] {-1, 3, LEAST, MOST}) due("person(0, " + wrong + ")", x.person(0, wrong), NONE);
        refused(x, 0, 0, 0);
    }

    private static void want() {
        OnlyLent x = Check.lent(ROAD + "want bob pot 3 60 99;want ann saw 0 1 1;");
        int[][] rows = {{1, 1, 3, 60, 99}, {0, 0, 0, 1, 1}};
        for (int w = 0; w < 2; w++)
            for (int what = 0; what < 5; what++) due("want(" + w + ", " + what + ")", x.want(w, what), rows[w][what]);
        for (int wrong : new int[] {-1, 2, LEAST, MOST}) due("want(" + wrong + ", 0)", x.want(wrong, 0), NONE);
        for (int wrong : new int[] {-1, 5, LEAST, MOST}) due("want(0, " + wrong + ")", x.want(0, wrong), NONE);
    }

    private static void things(OnlyLent x, int thing, int... row) {
        for (int what = 0; what < row.length; what++) due("thing(" + thing + ", " + what + ")", x.thing(thing, what), row[what]);
    }

    private static void thing() {
        OnlyLent x = Check.lent(ROAD);
        things(x, 0, 0, 0, 0, NONE, 1, 0);
        things(x, 2, 1, 2, 2, NONE, 1, 0);
        x.lend(0, 3, 20);
        x.lend(0, 2, 20);
        things(x, 0, 0, 0, 2, 20, 3, 0);
        x.lose(0);
        things(x, 0, 0, 0, 2, 20, 3, 1);
        for (int wrong : new int[] {-1, 3, LEAST, MOST}) due("thing(" + wrong + ", 0)", x.thing(wrong, 0), NONE);
        for (int wrong : new int[] {-1, 6, LEAST, MOST}) due("thing(0, " + wrong + ")", x.thing(0, wrong), NONE);
    }

    private static void chain() {
        OnlyLent x = Check.lent(ROAD);
        x.lend(1, 3, 30);
        x.lend(1, 0, 12);
        int[][] rows = {{1, NONE}, {3, 30}, {0, 12}};
        for (int k = 0; k < 3; k++)
            for (int what = 0; what < 2; what++) due("chain(1, " + k + ", " + what + ")", x.chain(1, k, what), rows[k][what]);
        for (int wrong : new int[] {-1, 3, LEAST, MOST}) due("chain(1, " + wrong + ", 0)", x.chain(1, wrong, 0), NONE);
        for (int wrong : new int[] {-1, 2, LEAST, MOST}) due("chain(1, 0, " + wrong + ")", x.chain(1, 0, wrong), NONE);
        for (int wrong : new int[] {-1, 3, LEAST, MOST}) due("chain(" + wrong + ", 0, 0)", x.chain(wrong, 0, 0), NONE);
        x.go(12);
        due("a loan that is over", x.chain(1, 2, 0), NONE);
    }

    private static void lend() {
        OnlyLent x = Check.lent(ROAD);
        due("till today", x.lend(0, 1, 0), NONE);
        due("till day 61", x.lend(0, 1, 61), NONE);
        due("to who has it", x.lend(0, 0, 5), NONE);
        refused(x, 0, 0, 3);
        due("no such thing", x.lend(3, 1, 5), NONE);
        due("no such thing", x.lend(-1, 1, 5), NONE);
        due("no such person", x.lend(0, 4, 5), NONE);
        due("no such person", x.lend(0, -1, 0), NONE);
        refused(x, 4, 0, 3);
        due("lend(0, 1, 60)", x.lend(0, 1, 60), 10);
        due("to the first", x.lend(0, 0, 5), NONE);
        due("as long as the holder has it", x.lend(0, 3, 60), 89);
        due("a third behind the first, with hands 2", x.lend(0, 2, 10), NONE);
        due("lend(1, 0, 9)", x.lend(1, 0, 9), 10);
        due("longer than the holder has it", x.lend(1, 2, 10), NONE);
        due("lend(1, 2, 9)", x.lend(1, 2, 9), 30);
        due("carried", x.count(5), 139);
        x.go(1);
        x.lose(2);
        due("a lost one", x.lend(2, 0, 9), NONE);
        refused(x, 4, 0, 7);
        OnlyLent y = Check.lent("person a 0;person b 1;person c 2;person d 3;person e 4;person f 5;person g 6;person h 7;"
            + "sort s 1;thing s a;");
        for (int p = 1; p < 8; p++) due("eight in a chain", y.lend(0, p, 60 - p), 1);
        due("thing(0, 4)", y.thing(0, 4), 8);
        y.go(52);
        due("the last loan is over still", y.thing(0, 4), 8);
        y.go(1);
        due("the last loan is over", y.thing(0, 4), 7);
        y.go(7);
        due("all loans are over", y.thing(0, 2), 0);
        due("on the last day none can be lent", y.lend(0, 1, 60), NONE);
    }

    private static void back() {
        OnlyLent x = Check.lent(ROAD);
        due("of the first", x.back(0), NONE);
        refused(x, 0, 0, 1);
        due("no such", x.back(3), NONE);
        due("no such", x.back(-1), NONE);
        refused(x, 2, 0, 1);
        x.lend(0, 3, 20);
        x.lend(0, 1, 10);
        due("back(0)", x.back(0), 89);
        due("the holder", x.thing(0, 2), 3);
        due("till when", x.thing(0, 3), 20);
        due("back(0)", x.back(0), 99);
        due("the holder", x.thing(0, 2), 0);
        due("carried", x.count(5), 99 + 89 + 89 + 99);
        x.lend(0, 1, 20);
        x.lose(0);
        due("a lost one", x.back(0), NONE);
        refused(x, 2, 0, 2);
    }

    private static void go() {
        OnlyLent x = new OnlyLent();
        due("without a land", x.go(1), NONE);
        refused(x, 0, 0, 1);
        x = Check.lent(ROAD);
        due("go(0)", x.go(0), NONE);
        due("go(-1)", x.go(-1), NONE);
        due("go(61)", x.go(61), NONE);
        due("go(least)", x.go(LEAST), NONE);
        due("go(most)", x.go(MOST), NONE);
        refused(x, 0, 0, 5);
        x.lend(0, 3, 5);
        x.lend(0, 1, 5);
        x.lend(1, 2, 7);
        x.lend(1, 3, 6);
        due("go(4)", x.go(4), 0);
        due("both loans at once, carried straight", x.go(1), 10);
        due("the holder", x.thing(0, 2), 0);
        due("one loan a day", x.go(2), 69 + 20);
        due("the day", x.count(4), 7);
        due("carried", x.count(5), 99 + 89 + 20 + 69 + 10 + 89);
        x.lend(2, 0, 9);
        x.lose(2);
        due("a lost thing stays", x.go(53), 0);
        due("its chain", x.chain(2, 1, 0), 0);
        due("the day", x.count(4), 60);
        due("there are no more", x.go(1), NONE);
    }

    private static void lose() {
        OnlyLent x = Check.lent(ROAD);
        due("lose(3)", x.lose(3), false);
        due("lose(-1)", x.lose(-1), false);
        due("lose(least)", x.lose(LEAST), false);
        refused(x, 3, 0, 0);
        due("lose(1)", x.lose(1), true);
        due("lose(1)", x.lose(1), false);
        refused(x, 3, 0, 1);
        due("lost", x.thing(1, 5), 1);
        due("not lost", x.thing(0, 5), 0);
    }

    private static void law() {
        OnlyLent x = Check.lent(ROAD);
        for (int wrong : new int[] {-1, 2, LEAST, MOST}) due("law(" + wrong + ")", x.law(wrong), false);
        refused(x, 4, 0, 0);
        due("count(8)", x.count(8), 0);
        due("law(1)", x.law(1), true);
        due("count(8)", x.count(8), 1);
        due("law(1)", x.law(1), true);
        due("law(0)", x.law(0), true);
        due("count(8)", x.count(8), 0);
        refused(x, 4, 0, 0);
    }

    private static void owing() {
        OnlyLent x = Check.lent(ROAD);
        x.lend(0, 1, 20);
        x.lend(0, 3, 20);
        x.lend(1, 3, 20);
        due("nothing is lost", x.owes(1, 0), 0);
        x.lose(0);
        x.lose(1);
        x.lose(2);
        promise = 15;
        int[][] byLinks = {{0, 0, 0, 0}, {7, 0, 0, 0}, {0, 0, 0, 0}, {0, 14, 0, 0}};
        owe(x, byLinks, 7, 7, 0, -14);
        x.law(1);
        promise = 15;
        int[][] byFirst = {{0, 0, 0, 0}, {0, 0, 0, 0}, {0, 0, 0, 0}, {7, 7, 0, 0}};
        owe(x, byFirst, 7, 7, 0, -14);
        for (int wrong : new int[] {-1, 4, LEAST, MOST}) {
            promise = 15;
            due("owes(" + wrong + ", 0)", x.owes(wrong, 0), NONE);
            due("owes(0, " + wrong + ")", x.owes(0, wrong), NONE);
            promise = 16;
            due("balance(" + wrong + ")", x.balance(wrong), VOID);
        }
    }

    private static void owe(OnlyLent x, int[][] table, int... balances) {
        for (int p = 0; p < 4; p++)
            for (int q = 0; q < 4; q++) due("owes(" + p + ", " + q + ")", x.owes(p, q), table[p][q]);
        promise = 16;
        for (int p = 0; p < 4; p++) due("balance(" + p + ")", x.balance(p), balances[p]);
    }

    private static final String ONE = "person a 0;person b 10;person c 30;sort s 5;thing s a;";

    private static void met(String wants, int bits, int weight) {
        OnlyLent x = Check.lent(ONE + wants);
        due("met(0) of " + wants, x.met(0), bits);
        due("met(1) of " + wants, x.met(1), weight);
    }

    private static void met() {
        met("", 0, 0);
        met("want b s 0 60 3;", 1, 3);
        met("want b s 0 5 3;want c s 5 9 4;", 3, 7);
        met("want b s 0 6 3;want c s 5 9 4;", 2, 4);
        met("want a s 0 5 4;want a s 5 9 4;want a s 0 9 8;", 4, 8);
        met("want a s 0 9 8;want a s 0 5 4;want a s 5 9 4;", 1, 8);
        met("want a s 0 5 4;want b s 0 5 4;", 1, 4);
        met("want a s 3 9 4;want b s 0 5 4;want c s 4 5 4;", 1, 4);
        met("thing s b;want a s 0 5 4;want b s 0 5 4;want c s 0 5 5;", 5, 9);
        met("sort t 1;want a t 0 5 4;want b s 0 5 4;", 2, 4);
        met("sort t 1;thing t a;want a t 0 5 4;want b s 0 5 4;", 3, 8);
        OnlyLent x = Check.lent(ONE + "want b s 0 60 3;");
        for (int wrong : new int[] {-1, 2, LEAST, MOST}) due("met(" + wrong + ")", x.met(wrong), NONE);
        x.lose(0);
        due("with a lost thing", x.met(0), 0);
        due("without a land", new OnlyLent().met(1), NONE);
    }

    private static void shorts(String more, int day, int sort) {
        OnlyLent x = Check.lent(ONE + more);
        due("shorts(0) of " + more, x.shorts(0), day);
        due("shorts(1) of " + more, x.shorts(1), sort);
    }

    private static void shorts() {
        shorts("", NONE, NONE);
        shorts("want a s 0 5 1;want b s 5 9 1;", NONE, NONE);
        shorts("want a s 0 6 1;want b s 5 9 1;", 5, 0);
        shorts("sort t 1;want a t 59 60 1;", 59, 1);
        shorts("sort t 1;want a s 3 5 1;want b s 4 5 1;want a t 4 5 1;", 4, 0);
        shorts("sort t 1;want a s 3 5 1;want b s 4 5 1;want a t 3 5 1;", 3, 1);
        OnlyLent x = Check.lent(ONE + "want b s 7 60 3;");
        due("shorts(0)", x.shorts(0), NONE);
        x.lose(0);
        due("shorts(0) with a lost thing", x.shorts(0), 7);
        for (int wrong : new int[] {-1, 2, LEAST, MOST}) due("shorts(" + wrong + ")", x.shorts(wrong), NONE);
        due("without a land", new OnlyLent().shorts(0), NONE);
    }

    private static void price() {
        OnlyLent x = Check.lent(ONE + "want a s 0 2 5;want b s 1 3 4;sort t 1;want a t 0 1 9;want a t 58 60 8;want b t 59 60 3;");
        int[] prices = {0, 4, 0};
        for (int day = 0; day < 3; day++) due("price(0, " + day + ")", x.price(0, day), prices[day]);
        due("of a sort without things", x.price(1, 0), 9);
        due("a want of two days", x.price(1, 58), 0);
        due("price(1, 59)", x.price(1, 59), 3);
        due("price(1, 60)", x.price(1, 60), NONE);
        due("price(0, -1)", x.price(0, -1), NONE);
        due("price(2, 0)", x.price(2, 0), NONE);
        due("price(-1, 0)", x.price(-1, 0), NONE);
        due("price(most, most)", x.price(MOST, MOST), NONE);
        due("price(least, least)", x.price(LEAST, LEAST), NONE);
        OnlyLent y = Check.lent(ONE + "want a s 3 6 5;want b s 3 5 2;want c s 4 5 1;");
        due("a want that needs two days", y.price(0, 3), 0);
        due("a want of one day", y.price(0, 4), 1);
        due("a want of two days, on its last", y.price(0, 5), 0);
        due("met as ahead", y.met(1), 5);
    }

    private static void longer() {
        OnlyLent x = Check.lent(ONE + "want a s 0 5 5;want b s 6 9 4;want c s 6 8 3;want c s 50 59 2;sort t 1;want a t 0 1 9;");
        due("met(1)", x.met(1), 11);
        due("into the free day", x.longer(0, 1), 0);
        due("into another one", x.longer(0, 2), 4);
        due("one that isn't met", x.longer(2, 1), 1);
        due("one that is met", x.longer(1, 41), 0);
        due("into the last one", x.longer(1, 42), 2);
        due("till day 60", x.longer(3, 1), 0);
        due("till day 61", x.longer(3, 2), NONE);
        due("never met", x.longer(4, 1), NONE);
        due("from 5 to 60", x.longer(0, 55), 6);
        due("from 5 to 61", x.longer(0, 56), NONE);
        for (int wrong : new int[] {-1, 0, 61, LEAST, MOST}) due("longer(0, " + wrong + ")", x.longer(0, wrong), NONE);
        for (int wrong : new int[] {-1, 5, LEAST, MOST}) due("longer(" + wrong + ", 1)", x.longer(wrong, 1), NONE);
        due("met as ahead", x.met(1), 11);
        x.lose(0);
        due("with nothing left", x.longer(0, 1), NONE);
    }

    private static void other() {
        due("without a land", new OnlyLent().other(), NONE);
        OnlyLent x = Check.lent(ONE + "sort t 1;want a s 0 5 1;want a t 0 5 9;");
        due("other()", x.other(), 8);
        x.lose(0);
        due("other() with nothing left", x.other(), 0);
        due("nothing to win", Check.lent(ONE + "want a s 0 5 1;").other(), 0);
        due("no wants", Check.lent(ONE).other(), 0);
    }

    private static final String TWO = "person a 0;person b 90;person c 20;person d 45;sort s 5;thing s a;thing s b;";

    private static void given(String text, int... things) {
        OnlyLent x = Check.lent(text);
        for (int w = 0; w < things.length; w++) due("given(" + w + ") of " + text, x.given(w), things[w]);
        due("given beyond", x.given(things.length), NONE);
        due("given(-1)", x.given(-1), NONE);
        due("given(least)", x.given(LEAST), NONE);
        due("given(most)", x.given(MOST), NONE);
    }

    private static void given() {
        given(TWO + "want b s 0 5 1;want c s 0 5 1;", 1, 0);
        given(TWO + "want d s 0 5 1;", 0);
        given(TWO + "want d s 0 5 1;want d s 0 5 1;", 0, 1);
        given(TWO + "want d s 0 5 1;want d s 0 5 1;want d s 2 4 1;", 0, 1, NONE);
        given(TWO + "want c s 5 9 1;want c s 0 5 1;", 0, 0);
        given(TWO + "want d s 0 5 1;want d s 5 9 1;hands 1;", 0, 0);
        given(TWO + "want d s 5 9 1;want d s 0 5 1;want a s 0 9 1;", 1, 1, 0);
        OnlyLent x = Check.lent(TWO + "want c s 0 5 1;");
        due("given(0)", x.given(0), 0);
        x.lose(0);
        due("given(0) with a lost thing", x.given(0), 1);
        x.lose(1);
        due("given(0) with nothing left", x.given(0), NONE);
    }

    private static void carry() {
        OnlyLent x = Check.lent(ONE + "want b s 0 1 1;want b s 1 2 1;want b s 4 5 1;hands 2;sort t 1;");
        due("of hands", x.carry(0, NONE), 40);
        due("one at once", x.carry(0, 1), 60);
        due("two at once", x.carry(0, 2), 40);
        due("three at once", x.carry(0, 3), 20);
        due("nine at once", x.carry(0, 9), 20);
        due("of a sort without things", x.carry(1, NONE), 0);
        for (int wrong : new int[] {-2, 0, 10, LEAST, MOST}) due("carry(0, " + wrong + ")", x.carry(0, wrong), NONE);
        for (int wrong : new int[] {-1, 2, LEAST, MOST}) due("carry(" + wrong + ", 1)", x.carry(wrong, 1), NONE);
        due("given as ahead", x.given(0), 0);
        // With hands 1 each want has the thing that is near it; if two were allowed, one thing would go past both.
        OnlyLent y = Check.lent("person a 0;person b 99;person c 60;person d 45;sort s 1;thing s a;thing s b;"
            + "want c s 0 5 1;want d s 5 9 1;hands 1;");
        due("given(1)", y.given(1), 0);
        due("carry(0, 1)", y.carry(0, 1), 78 + 90);
        due("carry(0, 2)", y.carry(0, 2), 39 + 15 + 54);
        due("given(1)", y.given(1), 0);
        OnlyLent z = Check.lent("person a 0;person b 60;person c 50;person d 40;sort s 1;thing s a;thing s b;"
            + "want c s 0 5 1;want d s 5 9 1;want c s 9 12 1;hands 1;");
        due("carry(0, 1)", z.carry(0, 1), 20 + 40 + 20);
        due("carry(0, 2)", z.carry(0, 2), 40 + 20);
        due("carry(0, 3)", z.carry(0, 3), 40);
    }

    private static void move(OnlyLent x, int day, int many, int far, int exchanged) {
        due("moves(0, " + day + ", 0)", x.moves(0, day, 0), many);
        due("moves(0, " + day + ", 1)", x.moves(0, day, 1), far);
        due("moves(0, " + day + ", 2)", x.moves(0, day, 2), exchanged);
    }

    private static void moves() {
        OnlyLent x = Check.lent("person a 0;person b 10;person c 60;person d 50;sort s 1;thing s a;thing s b;hands 1;"
            + "want c s 0 5 1;want d s 5 9 1;want b s 5 9 1;sort t 1;thing t a;want b t 5 60 1;");
        due("given(0)", x.given(0), 1);
        due("given(1)", x.given(1), 0);
        due("given(2)", x.given(2), 1);
        move(x, 0, 1, 50, 50);
        move(x, 5, 2, 100, 20);
        move(x, 9, 1, 50, 50);
        move(x, 60, 0, 0, 0);
        due("of the other sort", x.moves(1, 5, 1), 10);
        due("on the last day", x.moves(1, 60, 0), 1);
        for (int wrong : new int[] {-1, 61, LEAST, MOST}) due("moves(0, " + wrong + ", 0)", x.moves(0, wrong, 0), NONE);
        for (int wrong : new int[] {-1, 3, LEAST, MOST}) due("moves(0, 0, " + wrong + ")", x.moves(0, 0, wrong), NONE);
        for (int wrong : new int[] {-1, 2, LEAST, MOST}) due("moves(" + wrong + ", 0, 0)", x.moves(wrong, 0, 0), NONE);
        // All ways are as far: fewest times home with nine hands, least bits with two, and none spared with one.
        String wants = "person o 0;person a 10;sort s 1;thing s o;want a s 0 1 1;want o s 2 3 1;want a s 4 5 1;";
        int[][] rows = {{1, 0, 1, 0, 1, 1}, {1, 1, 0, 0, 1, 1}, {1, 1, 0, 0, 1, 1}};
        String[] hands = {"", "hands 2;", "hands 1;"};
        for (int i = 0; i < 3; i++) {
            OnlyLent y = Check.lent(wants + hands[i]);
            for (int day = 0; day < 6; day++) due(hands[i] + " moves on " + day, y.moves(0, day, 0), rows[i][day]);
        }
        OnlyLent z = Check.lent(ONE + "want b s 0 5 1;want c s 5 9 1;want b s 9 12 1;hands 2;");
        due("home behind the first is as far as behind the next", z.carry(0, NONE), 80);
        move(z, 5, 2, 40, 20);
        move(z, 9, 1, 20, 20);
        OnlyLent same = Check.lent(ONE + "want b s 0 5 1;want b s 5 9 1;hands 1;");
        move(same, 5, 2, 20, 0);
        OnlyLent straight = Check.lent(ONE + "want b s 0 5 1;want b s 5 9 1;");
        move(straight, 5, 0, 0, 0);
    }

    private static void spread(String text, int days) {
        due("spread() of " + text, Check.lent(text).spread(), days);
    }

    private static void spread() {
        due("without a land", new OnlyLent().spread(), NONE);
        String three = "person a 0;person b 10;sort s 1;thing s a;thing s a;thing s a;";
        spread(three, 0);
        spread(three + "want b s 0 9 1;want b s 1 9 1;want b s 2 9 1;road 1;", 3);
        spread(three + "want b s 0 9 1;want b s 1 9 1;want b s 2 9 1;road 2;", 1);
        spread(three + "want b s 0 9 1;want b s 1 9 1;want b s 2 9 1;road 3;", 0);
        spread(three + "want b s 0 9 1;want b s 0 9 1;road 1;", NONE);
        spread(three + "want b s 0 60 1;want b s 1 60 1;road 1;", NONE);
        spread(three + "want b s 0 59 1;want b s 1 59 1;road 1;", 1);
        spread(three + "sort t 1;thing t a;want b s 0 5 1;want b t 5 9 1;road 1;", 1);
        spread(three + "sort t 1;thing t a;want b s 0 5 1;want b t 5 6 1;road 1;", 2);
        spread(three + "want a s 0 5 1;want a s 0 5 1;want b s 0 5 1;road 1;", 0);
        spread(three + "sort t 1;thing t a;want b s 0 9 1;want b t 1 9 1;road 1;", 1);
        // Home between two wants goes on its day.
        spread("person a 0;person b 10;sort s 1;thing s a;hands 1;road 1;want b s 0 5 1;want b s 5 9 1;", NONE);
        spread("person a 0;person b 10;sort s 1;thing s a;hands 1;road 1;want b s 0 5 1;want b s 6 9 1;", 0);
    }

    private static final String LATE = "person a 0;person b 10;person c 30;sort s 5;thing s a;"
        + "want a s 0 5 9;want b s 6 8 10;want c s 8 10 7;want c s 12 20 8;";

    private static void late(OnlyLent x, int person, int days, int bits, int weight) {
        due("late(" + person + ", " + days + ", 0)", x.late(person, days, 0), bits);
        due("late(" + person + ", " + days + ", 1)", x.late(person, days, 1), weight);
    }

    private static void late() {
        OnlyLent x = Check.lent(LATE);
        late(x, 0, 1, 0, 0);
        late(x, 0, 2, 2, 5);
        late(x, 0, 3, 2, 10);
        late(x, 0, 4, 6, 13);
        late(x, 0, 8, 14, 18);
        late(x, 0, 60, 14, 25);
        late(x, 1, 1, 4, 3);
        late(x, 1, 2, 4, 7);
        late(x, 2, 2, 0, 0);
        late(x, 2, 3, 8, 1);
        // The one who is late wants it again, and makes the next one late once more.
        OnlyLent y = Check.lent(ONE + "want a s 0 5 9;want a s 6 8 10;want b s 9 12 6;");
        late(y, 0, 1, 0, 0);
        late(y, 0, 2, 6, 7);
        late(y, 0, 3, 2, 10);
        late(y, 0, 5, 6, 12);
        for (int wrong : new int[] {-1, 3, LEAST, MOST}) due("late(" + wrong + ", 1, 0)", y.late(wrong, 1, 0), NONE);
        for (int wrong : new int[] {-1, 0, 61, LEAST, MOST}) due("late(0, " + wrong + ", 0)", y.late(0, wrong, 0), NONE);
        for (int wrong : new int[] {-1, 2, LEAST, MOST}) due("late(0, 1, " + wrong + ")", y.late(0, 1, wrong), NONE);
        y.lose(0);
        late(y, 0, 60, 0, 0);
    }

    private static void bears() {
        OnlyLent x = Check.lent(LATE + "person d 5;");
        int[] days = {1, 0, 2, 60};
        for (int p = 0; p < 4; p++) due("bears(" + p + ")", x.bears(p), days[p]);
        for (int wrong : new int[] {-1, 4, LEAST, MOST}) due("bears(" + wrong + ")", x.bears(wrong), NONE);
        x.lose(0);
        due("with nothing given", x.bears(0), 60);
    }

    private static void dies() {
        OnlyLent x = Check.lent(ONE + "want a s 0 5 9;want b s 4 8 8;want a s 8 20 10;want c s 19 22 1;heir a b;");
        due("met(0)", x.met(0), 5);
        int[] lost = {19, 17, 15, 13, 11, 10};
        for (int day = 0; day < lost.length; day++) due("dies(0, " + day + ", 0)", x.dies(0, day, 0), lost[day]);
        due("dies(0, 9, 0)", x.dies(0, 9, 0), 9);
        due("dies(0, 19, 0)", x.dies(0, 19, 0), 0);
        due("dies(0, 60, 0)", x.dies(0, 60, 0), 0);
        due("dies(0, 0, 1)", x.dies(0, 0, 1), 9);
        due("dies(0, 60, 1)", x.dies(0, 60, 1), 9);
        due("one who has nothing met", x.dies(1, 0, 0), 0);
        due("one who has nothing met", x.dies(1, 0, 1), 0);
        for (int wrong : new int[] {-1, 3, LEAST, MOST}) due("dies(" + wrong + ", 1, 0)", x.dies(wrong, 1, 0), NONE);
        for (int wrong : new int[] {-1, 61, LEAST, MOST}) due("dies(0, " + wrong + ", 0)", x.dies(0, wrong, 0), NONE);
        for (int wrong : new int[] {-1, 2, LEAST, MOST}) due("dies(0, 1, " + wrong + ")", x.dies(0, 1, wrong), NONE);
        due("nobody has died", x.met(0), 5);
    }

    private static void entry() {
        OnlyLent x = Check.lent(ROAD);
        due("entry(4, 0)", x.entry(4, 0), NONE);
        due("entry(0, 4)", x.entry(0, 4), NONE);
        due("entry(-1, -1)", x.entry(-1, -1), NONE);
        due("entry(1, 1)", x.entry(1, 1), NONE);
        refused(x, 3, 0, 1);
        for (int i = 1; i <= 10; i++) due("entry " + i, x.entry(i % 2, 1 - i % 2), i);
        due("an eleventh", x.entry(0, 1), NONE);
        due("an eleventh, to itself", x.entry(1, 1), NONE);
        due("an eleventh, of nobody", x.entry(1, 9), NONE);
        refused(x, 4, 2, 1);
        due("count(9)", x.count(9), 10);
    }

    private static void undo() {
        OnlyLent x = Check.lent(ROAD);
        due("undo()", x.undo(), NONE);
        refused(x, 0, 0, 1);
        x.entry(0, 1);
        x.entry(1, 2);
        due("earth(1)", x.earth(1), 2);
        due("undo()", x.undo(), 1);
        due("earth(1)", x.earth(1), 1);
        due("undo()", x.undo(), 0);
        due("undo()", x.undo(), NONE);
        refused(x, 0, 0, 2);
    }

    private static void earth(int[][] entries, int... row) {
        OnlyLent x = Check.lent(ROAD);
        for (int[] entry : entries) x.entry(entry[0], entry[1]);
        for (int what = 0; what < 4; what++) due("earth(" + what + ") of " + entries.length, x.earth(what), row[what]);
    }

    private static void earth() {
        due("without a land", new OnlyLent().earth(0), NONE);
        earth(new int[][] {}, 0, 0, 0, 15);
        earth(new int[][] {{1, 2}}, 1, 1, 1, 2);
        earth(new int[][] {{0, 1}, {1, 2}, {0, 3}, {3, 2}}, 0, 4, 15, 1);
        earth(new int[][] {{0, 1}, {1, 2}, {2, 0}}, 0, 2, 3, 3);
        earth(new int[][] {{2, 1}, {1, 2}, {2, 0}}, 1, 2, 6, 6);
        earth(new int[][] {{0, 1}, {0, 1}, {1, 3}, {0, 2}, {1, 3}}, 0, 4, 15, 1);
        earth(new int[][] {{3, 1}, {3, 2}, {1, 2}}, 3, 2, 3, 8);
        OnlyLent x = Check.lent(ROAD);
        for (int wrong : new int[] {-1, 4, LEAST, MOST}) due("earth(" + wrong + ")", x.earth(wrong), NONE);
    }

    private static void years() {
        due("without a land", new OnlyLent().years(0, 1, 0), NONE);
        // Of the seed 0 come the lots 48, 22, 39, 28, 22, 28, 34, 15.
        OnlyLent x = Check.lent(ONE + "thing s a;want b s 5 9 10;want b s 0 5 20;want c s 0 9 1;");
        due("given(0)", x.given(0), 0);
        due("given(1)", x.given(1), 0);
        due("given(2)", x.given(2), 1);
        due("nothing is lost", x.years(0, 20, 0), 620);
        due("all is lost", x.years(0, 20, 64), 420);
        due("below 22 none is lost in two years", x.years(0, 2, 22), 62);
        due("below 23 in the other year the second want of the first thing, which is met", x.years(0, 2, 23), 62);
        due("below 29 the first want in the other year", x.years(0, 2, 29), 52);
        due("below 49 the first wants", x.years(0, 2, 49), 42);
        due("of another seed", x.years(1000000, 1, 37), 31);
        due("of another seed", x.years(1000000, 1, 38), 21);
        for (int wrong : new int[] {-1, 1000001, LEAST, MOST}) due("years(" + wrong + ", 1, 0)", x.years(wrong, 1, 0), NONE);
        for (int wrong : new int[] {-1, 0, 21, LEAST, MOST}) due("years(0, " + wrong + ", 0)", x.years(0, wrong, 0), NONE);
        for (int wrong : new int[] {-1, 65, LEAST, MOST}) due("years(0, 1, " + wrong + ")", x.years(0, 1, wrong), NONE);
        due("nothing is lost for good", x.thing(0, 5), 0);
    }

    private static void images() {
        promise = 33;
        OnlyLent x = new OnlyLent();
        due("without a land", x.image(0), false);
        due("no such, without a land", x.image(3), false);
        refused(x, 1, 0, 1);
        Check.feed(x, ROAD);
        x.land();
        for (int wrong : new int[] {-1, 3, LEAST, MOST}) due("image(" + wrong + ")", x.image(wrong), false);
        x.lend(0, 1, 20);
        x.go(4);
        x.entry(0, 1);
        due("image(2)", x.image(2), true);
        x.lend(0, 3, 20);
        x.go(6);
        x.lose(0);
        x.law(1);
        x.entry(1, 2);
        due("image(0)", x.image(0), true);
        promise = 34;
        due("on(1)", x.on(1), false);
        for (int wrong : new int[] {-1, 3, LEAST, MOST}) due("on(" + wrong + ")", x.on(wrong), false);
        refused(x, 10, 0, 1);
        due("on(2)", x.on(2), true);
        due("the day", x.count(4), 4);
        due("carried", x.count(5), 10);
        due("the law", x.count(8), 0);
        due("the book stays", x.count(9), 2);
        things(x, 0, 0, 0, 1, 20, 2, 0);
        due("the loan ends as it was to", x.go(16), 10);
        due("on(0)", x.on(0), true);
        due("the day", x.count(4), 10);
        due("carried", x.count(5), 99);
        due("the law", x.count(8), 1);
        things(x, 0, 0, 0, 3, 20, 3, 1);
        due("on(2) once more", x.on(2), true);
        things(x, 0, 0, 0, 1, 20, 2, 0);
        x.image(0);
        x.go(1);
        due("an image in the place of another", x.on(0), true);
        due("the day", x.count(4), 4);
        refused(x, 10, 0, 1);
    }

    private static void statuses() {
        OnlyLent x = new OnlyLent();
        for (int reason = 0; reason < 3; reason++) due("status(" + reason + ")", x.status(reason), 0);
        for (int wrong : new int[] {-1, 3, LEAST, MOST}) due("status(" + wrong + ")", x.status(wrong), NONE);
        x.land();
        x.law(7);
        x.law(7);
        refused(x, 2, 0, 1);
        Check.feed(x, ROAD);
        x.land();
        due("a new land keeps it", x.status(0), 2);
        x.image(0);
        x.law(7);
        x.on(0);
        due("an image doesn't take it back", x.status(0), 3);
        x.person(9, 9);
        x.price(9, 9);
        x.earth(9);
        x.late(9, 9, 9);
        due("what only asks is not refused", x.status(0), 3);
    }

    private static void counts() {
        OnlyLent x = Check.lent(ROAD + "want bob pot 3 60 99;");
        x.lend(0, 1, 9);
        x.go(2);
        x.law(1);
        x.entry(0, 1);
        x.entry(0, 1);
        x.feed(0, 0, 0, 0, 0);
        int[] counts = {4, 2, 3, 1, 2, 10, 2, 3, 1, 2, 20};
        for (int what = 0; what < counts.length; what++) due("count(" + what + ")", x.count(what), counts[what]);
        for (int wrong : new int[] {-1, 11, LEAST, MOST}) due("count(" + wrong + ")", x.count(wrong), NONE);
        OnlyLent y = new OnlyLent();
        y.law(1);
        y.feed(0, 0, 0, 0, 0);
        due("the law without a land", y.count(8), 0);
        due("bytes without a land", y.count(10), 20);
    }

    public static void main(String[] args) {
        promise = 1;
        newObject();
        promise = 2;
        feed();
        promise = 3;
        end();
        promise = 4;
        faults();
        promise = 5;
        land();
        promise = 6;
        person();
        promise = 7;
        want();
        promise = 8;
        thing();
        promise = 9;
        chain();
        promise = 10;
        lend();
        promise = 11;
        back();
        promise = 12;
        go();
        promise = 13;
        lose();
        promise = 14;
        law();
        promise = 15;
        owing();
        promise = 17;
        met();
        promise = 18;
        shorts();
        promise = 19;
        price();
        promise = 20;
        longer();
        promise = 21;
        other();
        promise = 22;
        given();
        promise = 23;
        carry();
        promise = 24;
        moves();
        promise = 25;
        spread();
        promise = 26;
        late();
        promise = 27;
        bears();
        promise = 28;
        dies();
        promise = 29;
        entry();
        promise = 30;
        undo();
        promise = 31;
        earth();
        promise = 32;
        years();
        promise = 33;
        images();
        promise = 35;
        statuses();
        promise = 36;
        counts();
        CHECK.finish();
    }
}
