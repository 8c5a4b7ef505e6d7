/** The edges of the text and of what stands in it: Terms 1, promises 1 to 5 and 7. */
final class TextEdges {
    private static final int NONE = Edges.NONE;
    // 40 bytes.
    private static final String HEAD = "person a 1;person b 2;sort s 1;sort t 1;";

    private final Edges e;

    TextEdges(Edges e) {
        this.e = e;
    }

    void run() {
        atMost500Bytes();
        tokensByEachByte();
        tokensAsLongAsCanBe();
        linesInAnyOrder();
        personLines();
        sortLines();
        thingLines();
        wantLines();
        handsLine();
        roadLine();
        heirLines();
        names();
        faultAtNumbers();
        faultAtNames();
        faultAtFifthThingOrSeventhWant();
        faultAtHeirs();
        faultAtTheirWords();
        faultAtTheFirstToken();
        faultAtByteThatBeginsNoToken();
        faultAtTheLength();
        newLand();
        newObject();
        constants();
        feed();
        end();
        fault();
        land();
        want();
    }

    // ---- helpers: a text alone, and one behind the head

    private void fault(String text, int place) {
        OnlyLent x = new OnlyLent();
        Check.feed(x, text);
        String shown = text.length() > 200 ? text.substring(0, 60) + " .. " + text.substring(text.length() - 60) : text;
        e.due("fault() of: " + shown, x.fault(), place);
    }

    private void stands(String text) {
        fault(text, NONE);
    }

    private void tail(String tail, int place) {
        fault(HEAD + tail, HEAD.length() + place);
    }

    private void tailStands(String tail) {
        fault(HEAD + tail, NONE);
    }

    private static String times(String line, int n) {
        return line.repeat(n);
    }

    // ---- Terms 1

    private void atMost500Bytes() {
        e.of("Terms 1", "A LAND is a text of at most 500 bytes.");
        String begun = HEAD + "person c ";
        String zeros = "0".repeat(500 - begun.length() - 2);
        OnlyLent x = Check.lent(begun + zeros + "7;");
        e.due("people of 500 bytes", x.count(0), 3);
        e.due("the number ahead of the last byte", x.person(2, 0), 7);
        e.due("500 bytes, blanks behind", Check.lent(HEAD + " ".repeat(460)).count(0), 2);
        e.due("500 bytes, blanks ahead", Check.lent("\n".repeat(460) + HEAD).count(0), 2);
        fault(begun + "0".repeat(500 - begun.length()), 500);
        fault(HEAD + " ".repeat(459) + "x", 499);
        fault(HEAD + " ".repeat(459) + ".", 499);
        fault(" ".repeat(500), 500);
        OnlyLent full = new OnlyLent();
        Check.feed(full, " ".repeat(500));
        e.due("no 501st byte", full.feed(0, 0, 0, 0, 0), NONE);
        e.due("bytes", full.count(10), 500);
    }

    /** Each byte where a word begins, where a number begins, behind each of them, and between lines. */
    private void tokensByEachByte() {
        e.of("Terms 1", "TOKENS: words of small letters, numbers of digits, as long as can be, and ; with any blanks (32) and line ends (10) between.");
        for (int b = 0; b < 256; b++) {
            char c = (char) b;
            boolean blank = b == 32 || b == 10;
            boolean letter = b >= 97 && b <= 122;
            boolean digit = b >= 48 && b <= 57;
            boolean stop = b == 59;
            fault("person " + c + " 1;sort sss 1;", letter ? NONE : blank ? 9 : 7);
            fault("person a " + c + ";sort sss 1;", digit ? NONE : blank ? 10 : 9);
            fault("person a" + c + " 1;sort sss 1;", letter || blank ? NONE : digit ? 10 : 8);
            fault("person a 1" + c + ";sort sss 1;", digit || blank ? NONE : stop ? 11 : 10);
            fault("person a 1" + c + "sort sss 1;", stop ? NONE : digit || blank ? 11 : 10);
            fault("person a 1;" + c + "sort sss 1;", blank ? NONE : 11);
        }
    }

    private void tokensAsLongAsCanBe() {
        e.of("Terms 1", "as long as can be");
        stands("person ab 1;person a 1;sort b 1;");
        fault("persona 1;sort s 1;", 0);
        fault("person a 1;sorts 1;", 11);
        fault("person a 1;sort sperson b 1;", 24);
        stands("person a1;sort s1;");
        e.due("12 is one number", Check.lent("person a12;sort s 1;").person(0, 0), 12);
        fault("person a 1 2;", 11);
        fault("person a b 1;", 9);
        fault("person a 1;;sort s 1;", 11);
        wordsAlikeButForALetter();
        e.of("Terms 1", "with any blanks (32) and line ends (10) between");
        stands("person" + "\n".repeat(100) + "a" + " ".repeat(100) + "1 \n ; \n sort\ns\n1\n;\n");
        stands("  \nperson a 1;sort s 1;");
    }

    /** A word that begins a line, with one letter changed, left out or put in, begins none, but is a name. */
    private void wordsAlikeButForALetter() {
        String[] lines = {"person c 1;", "sort u 1;", "thing s a;", "want a s 0 1 1;", "hands 1;", "road 1;", "heir a b;"};
        for (String line : lines) {
            String word = line.substring(0, line.indexOf(' '));
            String rest = line.substring(word.length());
            for (int i = 0; i < word.length(); i++) {
                char next = (char) (word.charAt(i) + 1);
                String changed = word.substring(0, i) + next + word.substring(i + 1);
                String less = word.substring(0, i) + word.substring(i + 1);
                String more = word.substring(0, i) + "x" + word.substring(i);
                for (String other : new String[] {changed, less, more}) {
                    tail(other + rest, 0);
                    tailStands("sort " + other + " 1;");
                }
            }
        }
    }

    private void linesInAnyOrder() {
        e.of("Terms 1", "LINES, in any order:");
        String[] alone = {"person a 1;", "person b 2;", "sort s 1;", "hands 3;", "road 4;"};
        String[] behind = {"thing s a;", "want b s 0 1 1;", "hands 3;", "road 4;", "heir a b;"};
        for (int order = 0; order < 120; order++) {
            stands(inOrder(alone, order));
            stands("person a 1;person b 2;sort s 1;" + inOrder(behind, order));
        }
        stands("sort s 1;person a 1;thing s a;person b 2;heir b a;want b s 0 1 1;sort t 2;thing t b;");
    }

    /** The order-th of the 120 orders of five lines. */
    private static String inOrder(String[] lines, int order) {
        StringBuilder text = new StringBuilder();
        boolean[] taken = new boolean[5];
        int rest = order;
        for (int left = 5; left > 0; left--) {
            int skip = rest % left;
            rest /= left;
            for (int i = 0; i < 5; i++) {
                if (!taken[i] && skip-- == 0) {
                    taken[i] = true;
                    text.append(lines[i]);
                }
            }
        }
        return text.toString();
    }

    private static String people(int n) {
        StringBuilder text = new StringBuilder();
        for (int i = 0; i < n; i++) text.append("person p").append((char) ('a' + i)).append(' ').append(10 * i).append(';');
        return text.toString();
    }

    private static String sorts(int n) {
        StringBuilder text = new StringBuilder();
        for (int i = 0; i < n; i++) text.append("sort s").append((char) ('a' + i)).append(' ').append(i + 1).append(';');
        return text.toString();
    }

    private void personLines() {
        e.of("Terms 1", "person N X ; (at most 8 PEOPLE, numbers as they come: at a place X 0 .. 99 on the road)");
        stands(people(1) + sorts(1));
        String eight = sorts(1) + people(8);
        OnlyLent x = Check.lent(eight);
        e.due("eight people", x.count(0), 8);
        for (int p = 0; p < 8; p++) e.due("place of " + p, x.person(p, 0), 10 * p);
        fault(eight + "person pi 1;", eight.length());
        e.due("a place 0", Check.lent("person a 0;sort s 1;").person(0, 0), 0);
        e.due("a place 99", Check.lent("person a 99;sort s 1;").person(0, 0), 99);
        fault("person a 100;sort s 1;", 9);
        fault("person a 990;sort s 1;", 9);
        fault("person 1 a;sort s 1;", 7);
    }

    private void sortLines() {
        e.of("Terms 1", "sort N R ; (at most 4 SORTS, numbers as they come: worth R 1 .. 99)");
        String four = people(2) + sorts(4);
        stands(four);
        e.due("four sorts", Check.lent(four).count(1), 4);
        fault(four + "sort se 1;", four.length());
        OnlyLent x = Check.lent(four + "thing sd pa;thing sa pa;");
        e.due("a thing of the fourth sort", x.thing(0, 0), 3);
        e.due("a thing of the first sort", x.thing(1, 0), 0);
        for (int worth : new int[] {1, 99}) {
            OnlyLent y = Check.lent("person a 0;person b 0;sort s " + worth + ";thing s a;");
            y.lend(0, 1, 1);
            y.lose(0);
            e.due("worth " + worth, y.owes(1, 0), worth);
        }
        fault("person a 1;sort s 0;", 18);
        fault("person a 1;sort s 100;", 18);
    }

    private void thingLines() {
        e.of("Terms 1", "thing N N ; (of a SORT, and a PERSON whose it is OF THE EARTH; at most 4 THINGS of a SORT, 12 in all, numbers as they come)");
        String head = people(2) + sorts(4);
        String four = head + times("thing sa pa;", 4);
        stands(head);
        stands(four);
        fault(four + "thing sa pb;", four.length() + 6);
        stands(four + "thing sb pb;");
        String twelve = four + times("thing sb pb;", 4) + times("thing sc pa;", 3) + "thing sd pb;";
        OnlyLent x = Check.lent(twelve);
        e.due("twelve things", x.count(2), 12);
        int[] sorts = {0, 0, 0, 0, 1, 1, 1, 1, 2, 2, 2, 3};
        int[] owners = {0, 0, 0, 0, 1, 1, 1, 1, 0, 0, 0, 1};
        for (int t = 0; t < 12; t++) {
            e.due("sort of thing " + t, x.thing(t, 0), sorts[t]);
            e.due("whose is thing " + t, x.thing(t, 1), owners[t]);
        }
        fault(twelve + "thing sd pa;", twelve.length());
        tail("thing a s;", 6);
        tail("thing s t;", 8);
    }

    private void wantLines() {
        e.of("Terms 1", "want N N A B W ; (a PERSON, a SORT, from day A to day B, 0 .. 60, B greater; W 1 .. 99; at most 6 WANTS of a SORT, 12 in all, numbers as they come)");
        tailStands("want a s 0 1 1;");
        tailStands("want a s 59 60 99;");
        tailStands("want a s 0 60 1;");
        tail("want a s 0 0 1;", 11);
        tail("want a s 59 59 1;", 12);
        tail("want a s 6 5 1;", 11);
        tail("want a s 0 61 1;", 11);
        tail("want a s 59 61 1;", 12);
        tail("want a s 60 60 1;", 12);
        tail("want a s 60 61 1;", 12);
        tail("want a s 61 60 1;", 9);
        tail("want a s 61 62 1;", 9);
        tail("want a s 0 1 0;", 13);
        tail("want a s 0 1 100;", 13);
        tail("want s a 0 1 1;", 5);
        tail("want a b 0 1 1;", 7);
        String six = HEAD + times("want a s 0 1 1;", 6);
        stands(six);
        fault(six + "want b s 0 1 1;", six.length() + 7);
        String twelve = six + times("want b t 3 60 99;", 6);
        OnlyLent x = Check.lent(twelve);
        e.due("twelve wants", x.count(3), 12);
        for (int w = 0; w < 12; w++) {
            e.due("person of want " + w, x.want(w, 0), w / 6);
            e.due("sort of want " + w, x.want(w, 1), w / 6);
        }
        String third = HEAD + "sort u 1;" + twelve.substring(HEAD.length());
        fault(third + "want b u 0 1 1;", third.length());
    }

    private void handsLine() {
        e.of("Terms 1", "hands H ; (once: 1 .. 9; 9 without)");
        e.due("without", Check.lent(HEAD).count(6), 9);
        for (int h = 1; h <= 9; h++) e.due("hands " + h, Check.lent(HEAD + "hands " + h + ";").count(6), h);
        tail("hands 0;", 6);
        tail("hands 10;", 6);
        tail("hands a;", 6);
        tail("hands 3;hands 3;", 8);
        tail("hands 9;road 1;hands 0;", 15);
    }

    private void roadLine() {
        e.of("Terms 1", "road C ; (once: 1 .. 20; 20 without)");
        e.due("without", Check.lent(HEAD).count(7), 20);
        for (int c = 1; c <= 20; c++) e.due("road " + c, Check.lent(HEAD + "road " + c + ";").count(7), c);
        tail("road 0;", 5);
        tail("road 21;", 5);
        tail("road a;", 5);
        tail("road 3;road 3;", 7);
        tail("road 20;hands 1;road 0;", 16);
    }

    private void heirLines() {
        e.of("Terms 1", "heir N N ; (of a PERSON, each once, another one)");
        OnlyLent x = Check.lent(HEAD + "person c 3;heir a b;heir b a;heir c a;");
        e.due("heir of 0", x.person(0, 1), 1);
        e.due("heir of 1", x.person(1, 1), 0);
        e.due("heir of 2, one that is an heir already", x.person(2, 1), 0);
        tail("heir a b;heir a b;", 14);
        tail("person c 3;heir a b;heir a c;", 25);
        tail("heir a a;", 7);
        tail("heir b b;", 7);
        e.due("without", Check.lent(HEAD + "heir a b;").person(1, 1), NONE);
    }

    private void names() {
        e.of("Terms 1", "NAMES N are words of at most 8 letters but: person sort thing want hands road heir; all unlike; those behind thing, want, heir are told ahead.");
        stands("person z 1;sort abcdefgh 1;thing abcdefgh z;");
        stands("person abcdefgh 1;sort z 1;want abcdefgh z 0 1 1;");
        fault("person abcdefghi 1;sort s 1;", 7);
        fault("person a 1;sort abcdefghi 1;", 16);
        fault("person abcdefghijklmnopqrstuvwxyz 1;", 7);
        stands("person abcdefgh 1;person abcdefgi 1;person bbcdefgh 1;person abcdefg 1;sort s 1;");
        fault(HEAD + "person abcdefgh 1;heir abcdefghh a;", 63);
        fault(HEAD + "person abcdefgh 1;heir abcdefg a;", 63);
        for (String kept : new String[] {"person", "sort", "thing", "want", "hands", "road", "heir"}) {
            tail("person " + kept + " 1;", 7);
            tail("sort " + kept + " 1;", 5);
            tail("thing " + kept + " a;", 6);
            tail("thing s " + kept + ";", 8);
            tail("want " + kept + " s 0 1 1;", 5);
            tail("want a " + kept + " 0 1 1;", 7);
            tail("heir " + kept + " a;", 5);
            tail("heir a " + kept + ";", 7);
            tailStands("person " + kept + "x 1;");
            tailStands("sort " + kept.substring(1) + " 1;");
            tailStands("person " + kept.substring(0, kept.length() - 1) + " 1;");
        }
        tail("person a 5;", 7);
        tail("person s 5;", 7);
        tail("sort s 5;", 5);
        tail("sort b 5;", 5);
        e.of("Terms 1", "those behind thing, want, heir are told ahead");
        fault("person a 1;thing s a;sort s 1;", 17);
        fault("sort s 1;thing s a;person a 1;", 17);
        fault("sort s 1;want a s 0 1 1;person a 1;", 14);
        fault("person a 1;want a s 0 1 1;sort s 1;", 18);
        fault("person a 1;sort s 1;heir a b;person b 1;", 27);
        fault("person a 1;sort s 1;heir b a;person b 1;", 25);
    }

    // ---- the fault

    private void faultAtNumbers() {
        e.of("Terms 1", "(also: a number that can't be;");
        fault("person a 4294967296;", 9);
        fault("person a 4294967297;", 9);
        fault("person a 18446744073709551617;", 9);
        fault("person a 2147483648;", 9);
        fault("person a 1000;", 9);
        fault("person a 1001;", 9);
        tail("sort u 4294967297;", 7);
        tail("want a s 4294967296 60 1;", 9);
        tail("want a s 0 4294967297 1;", 11);
        tail("want a s 0 1 4294967297;", 13);
        tail("hands 4294967297;", 6);
        tail("road 4294967297;", 5);
        tail("want a s 0060 60 1;", 14);
        tailStands("want a s 000 0060 00099;");
        tailStands("hands 000000000009;road 0000000000020;");
        tail("hands 0000000000010;", 6);
    }

    private void faultAtNames() {
        e.of("Terms 1", "a NAME that is told already, or isn't, or is not one of such;");
        tail("person b 1;", 7);
        tail("sort t 1;", 5);
        tail("thing u a;", 6);
        tail("thing s c;", 8);
        tail("want c s 0 1 1;", 5);
        tail("want a u 0 1 1;", 7);
        tail("heir c a;", 5);
        tail("heir a c;", 7);
        tail("thing a a;", 6);
        tail("thing s s;", 8);
        tail("want s s 0 1 1;", 5);
        tail("want a a 0 1 1;", 7);
        tail("heir s a;", 5);
        tail("heir a s;", 7);
        tail("thing 1 a;", 6);
        tail("thing s 1;", 8);
        tail("heir ; a;", 5);
    }

    private void faultAtFifthThingOrSeventhWant() {
        e.of("Terms 1", "the SORT of a 5th THING or 7th WANT of it;");
        for (String sort : new String[] {"s", "t"}) {
            tailStands(times("thing " + sort + " a;", 4));
            tail(times("thing " + sort + " a;", 5), 46);
            tail(times("thing " + sort + " a;", 4) + "thing " + sort + " c;", 46);
            tailStands(times("want a " + sort + " 0 1 1;", 6));
            tail(times("want a " + sort + " 0 1 1;", 7), 97);
            tail(times("want a " + sort + " 0 1 1;", 6) + "want c " + sort + " 0 1 1;", 95);
        }
        tailStands(times("thing s a;thing t b;", 4) + times("want a s 0 1 1;want b t 0 1 1;", 6));
    }

    private void faultAtHeirs() {
        e.of("Terms 1", "a PERSON that has an heir, the same one as heir;");
        tail("heir a b;heir a b;", 14);
        tail("heir a b;heir a a;", 14);
        tail("heir a b;heir b b;", 16);
        tail("heir a a;", 7);
        tailStands("heir a b;heir b a;");
    }

    private void faultAtTheirWords() {
        e.of("Terms 1", "a 9th person, 5th sort, 13th thing or want, second hands, road at their words),");
        String people = people(8) + sorts(1);
        for (String ninth : new String[] {"person pi 1;", "person", "person ;", "person pa 100;"})
            fault(people + ninth, people.length());
        stands(people + "sort sb 1;");
        String sorts = people(1) + sorts(4);
        for (String fifth : new String[] {"sort se 1;", "sort", "sort 1;", "sort pa 100;"})
            fault(sorts + fifth, sorts.length());
        stands(sorts + "person pb 1;");
        String things = sorts + times("thing sa pa;", 4) + times("thing sb pa;", 4) + times("thing sc pa;", 4);
        for (String more : new String[] {"thing sd pa;", "thing", "thing sa pa;", "thing 1;"})
            fault(things + more, things.length());
        stands(things + "want pa sa 0 1 1;");
        String wants = sorts + times("want pa sa 0 1 1;", 6) + times("want pa sb 0 1 1;", 6);
        for (String more : new String[] {"want pa sc 0 1 1;", "want", "want pa sa 0 1 1;", "want 1;"})
            fault(wants + more, wants.length());
        stands(wants + "thing sa pa;");
        for (String second : new String[] {"hands 1;", "hands", "hands 10;", "hands a;"}) tail("hands 1;" + second, 8);
        for (String second : new String[] {"road 1;", "road", "road 21;", "road a;"}) tail("road 1;" + second, 7);
        tailStands("hands 1;road 1;");
    }

    /** At each place of each line, each kind of token that is not the one that stands there. */
    private void faultAtTheFirstToken() {
        e.of("Terms 1", "The FAULT is the place (from 0 on) of the first byte of the first TOKEN that can't stand there");
        String[] lines = {"person c 1 ;", "sort u 1 ;", "thing s a ;", "want a s 0 1 1 ;", "hands 1 ;", "road 1 ;", "heir a b ;"};
        for (String line : lines) {
            tailStands(line);
            String[] tokens = line.split(" ");
            StringBuilder ahead = new StringBuilder();
            for (String token : tokens) {
                for (String other : new String[] {"1", ";", "zz", "person"}) {
                    boolean name = token.equals("c") || token.equals("u");
                    boolean number = token.equals("0") && other.equals("1");
                    boolean word = ahead.length() == 0 && other.equals("person");
                    boolean stands = other.equals(token) || (name && other.equals("zz")) || number || word;
                    if (!stands) {
                        tail(ahead + other + " ; 5 . heir", ahead.length());
                    }
                }
                ahead.append(token).append(' ');
            }
        }
        fault(";", 0);
        fault("1", 0);
        fault("a", 0);
        fault(" \n ;", 3);
        fault("heir", 4);
        fault("people a 1;", 0);
    }

    private void faultAtByteThatBeginsNoToken() {
        e.of("Terms 1", "or of a byte that begins no TOKEN, if that is ahead;");
        fault(".", 0);
        fault(" .", 1);
        fault("person a 1;sort s 1; .", 21);
        fault("person .", 7);
        fault("person a.", 8);
        fault("person a 1.", 10);
        fault("person a 1 .;", 11);
        fault("person a 1;.", 11);
        fault("person a .5;", 9);
        fault("person 5 .", 7);
        fault("person a 100.", 9);
        fault("persons.", 0);
        fault("person person.", 7);
        fault("person abcdefghi.", 7);
        fault("Person a 1;", 0);
        fault("pErson a 1;", 0);
        fault("person a\t1;", 8);
        fault("person a -1;", 9);
        fault("person a +1;", 9);
        fault("person a\r\n1;", 8);
        fault("person \u00e4 1;", 7);
        fault(HEAD + "\u0000", 40);
        fault(HEAD + "\u00ff", 40);
        fault(HEAD + "\u00a0", 40);
        fault(HEAD + "\u008a", 40);
    }

    private void faultAtTheLength() {
        e.of("Terms 1", "the length, if it ends too early, or has no PERSON or no SORT; NONE without.");
        String[] lines = {"person c 1 ;", "sort u 1 ;", "thing s a ;", "want a s 0 1 1 ;", "hands 1 ;", "road 1 ;", "heir a b ;"};
        for (String line : lines) {
            for (int to = line.indexOf(' '); to >= 0; to = line.indexOf(' ', to + 1)) {
                tail(line.substring(0, to), to);
                tail(line.substring(0, to) + " \n", to + 2);
            }
        }
        fault("", 0);
        fault(" ", 1);
        fault("\n\n", 2);
        fault("person a 1;", 11);
        fault("person a 1;person b 1;", 22);
        fault("person a 1;heir a", 17);
        fault("sort s 1;", 9);
        fault("sort s 1;sort t 1; ", 19);
        fault("hands 1;", 8);
        fault("road 1;", 7);
        stands("person a 1;sort s 1;");
        stands("sort s 1;person a 1;");
    }

    // ---- a land, and none

    private static final String OLD = "person olda 0;person oldb 50;person oldc 99;sort olds 9;sort oldt 8;thing olds olda;thing olds oldb;"
        + "thing oldt oldc;want oldc olds 0 9 5;want oldb olds 0 9 5;hands 2;road 3;heir olda oldb;";

    private static OnlyLent lived() {
        OnlyLent x = Check.lent(OLD);
        x.lend(0, 2, 40);
        x.lend(1, 2, 40);
        x.go(7);
        x.lose(1);
        x.law(1);
        x.entry(0, 1);
        x.entry(1, 2);
        for (int k = 0; k < 3; k++) x.image(k);
        return x;
    }

    private void newLand() {
        e.of("Terms 1", "A LAND without one takes the place of the one ahead: DAY 0, each THING is with whose it is, nothing is CARRIED or LOST, no BOOK, images; LAW 0.");
        OnlyLent x = lived();
        e.due("carried ahead", x.count(5), 99 + 49);
        Check.feed(x, "person new 3;sort things 1;thing things new;thing things new;");
        e.due("land()", x.land(), 1);
        int[] counts = {1, 1, 2, 0, 0, 0, 9, 20, 0, 0, 0};
        for (int what = 0; what <= 10; what++) e.due("count(" + what + ")", x.count(what), counts[what]);
        for (int t = 0; t < 2; t++) {
            int[] row = {0, 0, 0, NONE, 1, 0};
            for (int what = 0; what < 6; what++) e.due("thing(" + t + ", " + what + ")", x.thing(t, what), row[what]);
        }
        e.due("no third thing", x.thing(2, 0), NONE);
        e.due("no second person", x.person(1, 0), NONE);
        e.due("no want", x.want(0, 0), NONE);
        e.due("no second sort", x.price(1, 0), NONE);
        e.due("no heir", x.person(0, 1), NONE);
        e.due("holds all", x.person(0, 2), 2);
        e.due("nothing is short", x.shorts(0), NONE);
        e.due("nobody owes", x.balance(0), 0);
        e.due("met", x.met(0), 0);
        for (int k = 0; k < 3; k++) e.due("on(" + k + ")", x.on(k), false);
        e.due("a new book", x.earth(1), 0);
        e.statuses(x, 3, 0, 0);
        theSameLandAgain();
        namesOfTheOldLand();
        oneLandBehindTheOther();
        askedTwice();
    }

    private static final String FULL = "person a 0;person b 10;person c 99;person d 40;sort s 9;sort t 8;sort u 7;sort v 6;"
        + "thing s a;thing s b;thing s c;thing s d;thing t a;thing t b;thing u c;thing v d;"
        + "want c s 0 9 5;want d s 2 9 5;want a s 5 9 5;want d t 0 9 5;want a t 9 20 5;want b u 0 60 9;want a v 3 60 9;want b v 0 4 9;"
        + "hands 1;road 2;heir a b;heir b c;";
    private static final String[] LANDS = {FULL, "person a 7;sort s 1;", "person a 7;person b 9;sort s 1;thing s b;thing s b;",
        "person a 7;sort s 1;sort t 2;thing t a;want a t 3 5 8;", "person a 7;person b 9;sort s 1;want b s 3 5 8;hands 3;"};

    /** A land in an object that had others answers as it does in a new object. */
    private void oneLandBehindTheOther() {
        for (String first : LANDS) {
            for (String second : LANDS) {
                for (String third : LANDS) {
                    OnlyLent x = Check.lent(first);
                    liveThrough(x);
                    Check.feed(x, second);
                    x.land();
                    liveThrough(x);
                    Check.feed(x, third);
                    x.land();
                    e.same("a third land", Answers.ofLand(Check.lent(third)), Answers.ofLand(x));
                }
            }
        }
    }

    /** What was asked ahead changes no answer. */
    private void askedTwice() {
        e.of("Terms 6", "REFUSED is each call that would change something and doesn't");
        for (String text : LANDS) {
            OnlyLent x = Check.lent(text);
            e.same("asked once more", Answers.asked(x), Answers.asked(x));
        }
    }

    /** Asks all that is kept for later calls, without a loss, and lends what can be lent. */
    private static void liveThrough(OnlyLent x) {
        x.met(0);
        x.other();
        x.earth(3);
        for (int t = 0; t < x.count(2); t++) {
            x.lend(t, (x.thing(t, 1) + 1) % x.count(0), 2);
        }
        x.spread();
    }

    private void theSameLandAgain() {
        OnlyLent x = lived();
        e.due("one want met", x.met(0), 1);
        Check.feed(x, OLD);
        e.due("land()", x.land(), 3);
        e.due("both wants met", x.met(0), 3);
        e.due("held by its first", x.thing(0, 2), 0);
        e.due("not lost", x.thing(1, 5), 0);
        e.due("the day", x.count(4), 0);
        e.due("an entry is the first one", x.entry(0, 1), 1);
        e.due("all days go by again", x.go(60), 0);
    }

    private void namesOfTheOldLand() {
        OnlyLent x = lived();
        Check.feed(x, "person olda 3;sort oldt 1;thing oldt olda;");
        e.due("names of the old land are free", x.land(), 1);
        OnlyLent y = lived();
        Check.feed(y, "person new 3;sort news 1;thing olds new;");
        e.due("names of the old land are not told", y.fault(), 31);
        OnlyLent z = lived();
        Check.feed(z, "person new 3;sort news 1;hands 4;road 5;");
        e.due("hands and road may be told again", z.land(), 1);
        e.due("hands", z.count(6), 4);
        e.due("road", z.count(7), 5);
    }

    private void newObject() {
        e.of("Promise 1", "No LAND.");
        OnlyLent x = new OnlyLent();
        for (int what = 0; what <= 10; what++) e.due("count(" + what + ")", x.count(what), 0);
        for (int what = 0; what < 6; what++) {
            e.due("person", x.person(0, what), NONE);
            e.due("want", x.want(0, what), NONE);
            e.due("thing", x.thing(0, what), NONE);
            e.due("chain", x.chain(0, 0, what), NONE);
            e.due("met", x.met(what), NONE);
            e.due("shorts", x.shorts(what), NONE);
            e.due("moves", x.moves(0, 0, what), NONE);
            e.due("late", x.late(0, 1, what), NONE);
            e.due("dies", x.dies(0, 0, what), NONE);
            e.due("earth", x.earth(what), NONE);
        }
        e.due("fault", x.fault(), 0);
        e.due("owes", x.owes(0, 0), NONE);
        e.due("balance", x.balance(0), Edges.VOID);
        e.due("price", x.price(0, 0), NONE);
        e.due("longer", x.longer(0, 1), NONE);
        e.due("other", x.other(), NONE);
        e.due("given", x.given(0), NONE);
        e.due("carry", x.carry(0, NONE), NONE);
        e.due("spread", x.spread(), NONE);
        e.due("bears", x.bears(0), NONE);
        e.due("years", x.years(0, 1, 0), NONE);
        e.statuses(x, 0, 0, 0);
    }

    private void constants() {
        e.of("Terms 6", "The constants: `NONE = -1`: There is none.");
        e.due("NONE", OnlyLent.NONE, -1);
        e.of("Terms 6", "`VOID = -2147483648`: There is none of what may be below 0.");
        e.due("VOID", OnlyLent.VOID, -2147483648L);
    }

    // ---- promises

    private void feed() {
        e.of("Promise 2", "Bytes come behind those of the text, of each number the highest first (20 of them): how many there are;");
        OnlyLent x = new OnlyLent();
        // "pers" "on a" " 1;s" "ort " "s 1;"
        e.due("feed", x.feed(0x70657273, 0x6f6e2061, 0x20313b73, 0x6f727420, 0x7320313b), 20);
        e.due("fault()", x.fault(), NONE);
        e.due("feed behind", x.feed(0x70657273, 0x6f6e2062, 0x20323b68, 0x65697220, 0x6220613b), 40);
        e.due("fault()", x.fault(), NONE);
        e.due("land()", x.land(), 2);
        e.due("feed of the next text", x.feed(-1, -2, -3, -4, -5), 20);
        e.due("fault()", x.fault(), 0);
        for (int i = 0; i < 20; i++) eachOf20Bytes(i);
        e.of("Promise 2", "NONE (REFUSED, 1) if there would be more than 500.");
        OnlyLent y = new OnlyLent();
        for (int i = 1; i <= 25; i++) e.due("feed " + i, y.feed(i, i, i, i, i), 20 * i);
        e.statuses(y, 0, 0, 0);
        e.due("from 500", y.feed(0, 0, 0, 0, 0), NONE);
        y.end(499);
        e.due("from 499", y.feed(0, 0, 0, 0, 0), NONE);
        y.end(481);
        e.due("from 481", y.feed(0, 0, 0, 0, 0), NONE);
        e.statuses(y, 0, 3, 0);
        y.end(480);
        e.due("from 480", y.feed(0, 0, 0, 0, 0), 500);
        e.statuses(y, 0, 3, 0);
    }

    /** A byte that begins no token, at one of the twenty, with all else blank. */
    private void eachOf20Bytes(int place) {
        int[] n = new int[5];
        java.util.Arrays.fill(n, 0x20202020);
        n[place / 4] ^= (0x20 ^ 0xff) << 24 - 8 * (place % 4);
        OnlyLent x = new OnlyLent();
        e.due("feed", x.feed(n[0], n[1], n[2], n[3], n[4]), 20);
        e.due("the place of 255 at " + place, x.fault(), place);
    }

    private void end() {
        e.of("Promise 3", "The text has its first n bytes alone: true;");
        OnlyLent x = new OnlyLent();
        e.due("end(0) of none", x.end(0), true);
        Check.feed(x, "person a 1;sort s 1;person b 2;");
        e.due("end(31), all", x.end(31), true);
        e.due("bytes", x.count(10), 31);
        e.due("end(30)", x.end(30), true);
        e.due("fault()", x.fault(), 30);
        e.due("end(20)", x.end(20), true);
        e.due("end(21) behind it", x.end(21), false);
        e.due("fault()", x.fault(), NONE);
        Check.feed(x, "person c 7;");
        e.due("land()", x.land(), 2);
        e.due("what was fed behind the cut", x.person(1, 0), 7);
        e.due("end(0) behind land()", x.end(0), true);
        e.due("end(1) behind land()", x.end(1), false);
        e.of("Promise 3", "false (REFUSED) if it has not so many, or n is below 0.");
        for (int n : new int[] {-1, 21, 22, 500, Edges.LEAST, Edges.MOST}) {
            OnlyLent y = new OnlyLent();
            Check.feed(y, "person a 1;sort s 1;");
            e.due("end(" + n + ")", y.end(n), false);
            e.statuses(y, 0, 0, 1);
            e.due("bytes", y.count(10), 20);
            e.due("fault()", y.fault(), NONE);
        }
        OnlyLent full = new OnlyLent();
        Check.feed(full, " ".repeat(500));
        e.due("end(501)", full.end(501), false);
        e.due("end(500)", full.end(500), true);
        e.due("bytes", full.count(10), 500);
        e.due("end(0)", full.end(0), true);
        e.due("bytes", full.count(10), 0);
    }

    private void fault() {
        e.of("Promise 4", "The FAULT.");
        OnlyLent x = Check.lent(HEAD);
        Check.feed(x, "person c 1;person c 1;");
        for (int i = 0; i < 2; i++) {
            e.due("fault()", x.fault(), 18);
            e.due("the text stays", x.count(10), 22);
            e.due("the land stays", x.count(0), 2);
        }
        e.statuses(x, 0, 0, 0);
        String full = people(8) + sorts(4) + times("thing sa pa;thing sb pa;thing sc pa;", 4) + "hands 3;road 4;heir pa pb;";
        fedAndAsked(full, 8, 4, 12, 0);
        fedAndAsked(people(1) + sorts(2) + times("want pa sa 0 1 1;want pa sb 0 1 1;", 6), 1, 2, 0, 12);
    }

    /** A text that is read over and over stands as it did. */
    private void fedAndAsked(String text, int... counts) {
        OnlyLent x = new OnlyLent();
        Check.feed(x, text);
        for (int i = 0; i < 5; i++) e.due("fault() again", x.fault(), NONE);
        e.due("land()", x.land(), counts[0]);
        for (int what = 0; what < 4; what++) e.due("count(" + what + ")", x.count(what), counts[what]);
    }

    private void land() {
        e.of("Promise 5", "The LAND comes of the text, which is empty then: how many PEOPLE;");
        for (int n = 1; n <= 8; n++) {
            OnlyLent x = new OnlyLent();
            Check.feed(x, people(n) + sorts(1));
            e.due("land() of " + n, x.land(), n);
            e.due("bytes", x.count(10), 0);
            e.due("fault() of the empty text", x.fault(), 0);
            e.statuses(x, 0, 0, 0);
        }
        e.of("Promise 5", "NONE (REFUSED) with a FAULT (it stays).");
        OnlyLent x = new OnlyLent();
        e.due("land() of nothing", x.land(), NONE);
        Check.feed(x, "person a 1;");
        e.due("land() without a sort", x.land(), NONE);
        e.due("the text stays", x.count(10), 11);
        e.due("the fault stays", x.fault(), 11);
        e.due("no land", x.count(0), 0);
        e.due("nobody", x.person(0, 0), NONE);
        e.due("met", x.met(0), NONE);
        e.statuses(x, 0, 0, 2);
        Check.feed(x, "sort s 1;");
        e.due("land() when it has one", x.land(), 1);
        e.statuses(x, 0, 0, 2);
        OnlyLent y = lived();
        Check.feed(y, "person new 1;sort news 1;want new news 60 60 1;");
        e.due("land() with a fault", y.land(), NONE);
        e.due("the old land", y.count(0), 3);
        e.due("the old day", y.count(4), 7);
        e.due("the old chain", y.thing(0, 4), 2);
        e.due("the old wants", y.met(0), 1);
        e.due("the old image", y.on(2), true);
    }

    private void want() {
        e.of("Promise 7", "Of a WANT: 0 PERSON, 1 SORT, 2 A, 3 B, 4 W.");
        OnlyLent x = Check.lent(HEAD + times("want a t 0 1 1;", 6) + times("want a s 3 4 5;", 5) + "want b s 59 60 99;");
        int[] first = {0, 1, 0, 1, 1};
        int[] last = {1, 0, 59, 60, 99};
        for (int what = 0; what < 5; what++) {
            e.due("want(0, " + what + ")", x.want(0, what), first[what]);
            e.due("want(11, " + what + ")", x.want(11, what), last[what]);
        }
        e.of("Promise 7", "NONE for others, or if there is none such.");
        for (int wrong : new int[] {-1, 12, Edges.LEAST, Edges.MOST}) e.due("want(" + wrong + ", 0)", x.want(wrong, 0), NONE);
        for (int wrong : new int[] {-1, 5, Edges.LEAST, Edges.MOST}) e.due("want(0, " + wrong + ")", x.want(0, wrong), NONE);
        e.due("of no wants", Check.lent(HEAD).want(0, 0), NONE);
        e.statuses(x, 0, 0, 0);
    }
}
