/** Runs of calls by lots: the class answers as the plain telling of the document does. */
public final class RandomTest {
    private static final Check CHECK = new Check("RandomTest");
    private static long x = 1;
    private static OnlyLent lent;
    private static PlainLent plain;
    private static StringBuilder calls;

    private static int lot(int n) {
        x = x * 6364136223846793005L + 1442695040888963407L;
        return (int) ((x >>> 33) % n);
    }

    private static int lot(int from, int to) {
        return from + lot(to - from + 1);
    }

    /** Mostly below n, sometimes beside it. */
    private static int some(int n) {
        return lot(12) == 0 ? lot(6) == 0 ? (lot(2) == 0 ? Integer.MIN_VALUE : Integer.MAX_VALUE) : lot(-2, n + 2)
            : lot(Math.max(n, 1));
    }

    private static void due(String call, long got, long due) {
        calls.append(call).append(" = ").append(due).append('\n');
        if (got != due) {
            System.out.println(calls);
        }
        CHECK.due(call, got, due);
    }

    private static void due(String call, boolean got, boolean due) {
        due(call, got ? 1 : 0, due ? 1 : 0);
    }

    // ---- texts

    private static String name(String kind, int i) {
        return kind + (char) ('a' + i);
    }

    private static String blank() {
        return lot(6) == 0 ? lot(2) == 0 ? "\n" : "  " : " ";
    }

    private static String landText() {
        int people = lot(1, 8), sorts = lot(1, 4), size = lot(4);
        int places = new int[] {3, 10, 99, 99}[lot(4)];
        int days = new int[] {6, 15, 60, 60}[lot(4)];
        int weights = new int[] {1, 3, 20, 99}[lot(4)];
        StringBuilder text = new StringBuilder();
        for (int i = 0; i < people; i++) text.append("person p").append((char) ('a' + i)).append(blank()).append(lot(places + 1)).append(";");
        for (int i = 0; i < sorts; i++) text.append("sort s").append((char) ('a' + i)).append(blank()).append(lot(1, 99)).append(";");
        if (lot(2) == 0) text.append("hands ").append(lot(1, lot(2) == 0 ? 3 : 9)).append(";");
        if (lot(2) == 0) text.append("road ").append(lot(1, lot(2) == 0 ? 3 : 20)).append(";");
        int[] things = new int[4], wants = new int[4];
        int of = 0;
        int tries = lot(2) == 0 ? 40 : lot(30);
        int focus = lot(3) == 0 ? lot(sorts) : -1;
        for (int i = 0; i < tries && text.length() < 470; i++) {
            int sort = focus >= 0 && lot(3) > 0 ? focus : lot(sorts);
            int kind = lot(5);
            if (kind < 2 && things[sort] < 4 && sum(things) < 12 && (size > 0 || lot(3) == 0)) {
                things[sort]++;
                text.append("thing ").append(name("s", sort)).append(' ').append(name("p", lot(people))).append(";");
            } else if (kind < 4 && wants[sort] < 6 && sum(wants) < 12) {
                wants[sort]++;
                int a = lot(days), b = lot(3) == 0 ? lot(a + 1, days) : Math.min(days, a + lot(1, Math.max(1, days / 4)));
                if (lot(12) == 0) b = 60;
                text.append("want ").append(name("p", lot(people))).append(' ').append(name("s", sort)).append(' ')
                    .append(a).append(' ').append(b).append(' ').append(lot(1, weights)).append(";");
            } else if (people > 1 && of < people && lot(3) == 0) {
                text.append("heir ").append(name("p", of)).append(' ').append(name("p", (of + lot(1, people - 1)) % people)).append(";");
                of++;
            }
        }
        return text.length() > 500 ? landText() : text.toString();
    }

    private static int sum(int[] row) {
        int sum = 0;
        for (int n : row) sum += n;
        return sum;
    }

    private static final String[] SCRAPS = {"person", "sort", "thing", "want", "hands", "road", "heir", ";", "0", "1", "9", "10",
        "20", "21", "60", "61", "99", "100", "007", "99999999999999", "pa", "sa", "abcdefgh", "abcdefghi", ".", "A", "\n", "\t",
        "\u00e9", "persons", "zz", ""};

    /** Changes some token of a text, or some byte. */
    private static String spoiled(String text) {
        StringBuilder out = new StringBuilder(text);
        for (int n = lot(1, 2); n > 0 && out.length() > 0; n--) {
            int place = lot(out.length());
            String scrap = SCRAPS[lot(SCRAPS.length)];
            switch (lot(5)) {
                case 0: out.setLength(place); break;
                case 1: out.deleteCharAt(place); break;
                case 2: out.insert(place, scrap); break;
                default: {
                    int from = place, to = place;
                    while (from > 0 && isOne(out.charAt(from - 1), out.charAt(place))) from--;
                    while (to < out.length() && isOne(out.charAt(to), out.charAt(place))) to++;
                    if (lot(3) == 0) {
                        String token = out.substring(from, to);
                        int with = lot(out.length());
                        out.insert(with, " " + token + " ");
                    } else {
                        out.replace(from, to, scrap);
                    }
                }
            }
        }
        return out.length() > 500 ? out.substring(0, 500) : out.toString();
    }

    private static boolean isOne(char a, char b) {
        return (a >= 'a' && a <= 'z') == (b >= 'a' && b <= 'z') && (a >= '0' && a <= '9') == (b >= '0' && b <= '9')
            && a != ';' && b != ';';
    }

    private static void feed(String text) {
        due("end(0)", lent.end(0), plain.end(0));
        for (int from = 0; from < text.length(); from += 20) {
            int[] n = Check.numbers(text, from);
            due("feed " + from, lent.feed(n[0], n[1], n[2], n[3], n[4]), plain.feed(n[0], n[1], n[2], n[3], n[4]));
        }
        due("end(" + text.length() + ") " + text, lent.end(text.length()), plain.end(text.length()));
    }

    // ---- calls

    private static void change() {
        int a = some(lent.count(2)), b = some(lent.count(0)), k = some(3);
        int c = lot(3) == 0 ? lot(-1, 62) : Math.min(60, lent.count(4) + lot(1, 30));
        int d = lot(3) == 0 ? some(lent.count(0)) : lot(Math.max(1, lent.count(0)));
        switch (lot(16)) {
            case 0: case 1: case 2: case 3: case 4:
                due("lend(" + a + "," + b + "," + c + ")", lent.lend(a, b, c), plain.lend(a, b, c)); break;
            case 5: due("back(" + a + ")", lent.back(a), plain.back(a)); break;
            case 6: case 7: { int n = lot(20) == 0 ? some(62) : lot(0, 8); due("go(" + n + ")", lent.go(n), plain.go(n)); break; }
            case 8: if (lot(3) == 0) due("lose(" + a + ")", lent.lose(a), plain.lose(a)); break;
            case 9: { int l = some(2); due("law(" + l + ")", lent.law(l), plain.law(l)); break; }
            case 10: case 11: case 12: due("entry(" + b + "," + d + ")", lent.entry(b, d), plain.entry(b, d)); break;
            case 13: due("undo()", lent.undo(), plain.undo()); break;
            case 14: due("image(" + k + ")", lent.image(k), plain.image(k)); break;
            default: due("on(" + k + ")", lent.on(k), plain.on(k)); break;
        }
    }

    /** Mostly a day on which a want begins or ends, or the day ahead of that. */
    private static int someDay() {
        if (lent.count(3) == 0 || lot(4) == 0) return some(61);
        return lent.want(lot(lent.count(3)), lot(2, 3)) - lot(2);
    }

    private static void askHeld() {
        int p = some(lent.count(0)), q = some(lent.count(0)), t = some(lent.count(2)), k = some(4), what = some(6);
        due("person(" + p + "," + k + ")", lent.person(p, k), plain.person(p, k));
        int w = some(lent.count(3));
        due("want(" + w + "," + what + ")", lent.want(w, what), plain.want(w, what));
        due("thing(" + t + "," + what + ")", lent.thing(t, what), plain.thing(t, what));
        due("chain(" + t + "," + k + "," + what % 3 + ")", lent.chain(t, k, what % 3), plain.chain(t, k, what % 3));
        due("owes(" + p + "," + q + ")", lent.owes(p, q), plain.owes(p, q));
        due("balance(" + p + ")", lent.balance(p), plain.balance(p));
        int n = some(11), r = some(3);
        due("count(" + n + ")", lent.count(n), plain.count(n));
        due("status(" + r + ")", lent.status(r), plain.status(r));
    }

    private static void askMet() {
        int s = some(lent.count(1)), w = some(lent.count(3)), m = lot(8) == 0 ? some(62) : lot(1, 10), what = some(2);
        int d = someDay(), p = some(lent.count(0));
        due("met(" + what + ")", lent.met(what), plain.met(what));
        due("shorts(" + what + ")", lent.shorts(what), plain.shorts(what));
        due("price(" + s + "," + d + ")", lent.price(s, d), plain.price(s, d));
        due("longer(" + w + "," + m + ")", lent.longer(w, m), plain.longer(w, m));
        due("dies(" + p + "," + d + "," + what + ")", lent.dies(p, d, what), plain.dies(p, d, what));
        if (lot(4) == 0) due("other()", lent.other(), plain.other());
    }

    private static void askGiven() {
        int s = some(lent.count(1)), w = some(lent.count(3)), d = someDay(), h = some(10), what = some(2);
        int p = some(lent.count(0)), l = some(30) + 1, k = some(3);
        h = lot(3) == 0 ? -1 : h;
        due("given(" + w + ")", lent.given(w), plain.given(w));
        due("carry(" + s + "," + h + ")", lent.carry(s, h), plain.carry(s, h));
        due("moves(" + s + "," + d + "," + k + ")", lent.moves(s, d, k), plain.moves(s, d, k));
        due("spread()", lent.spread(), plain.spread());
        due("late(" + p + "," + l + "," + what + ")", lent.late(p, l, what), plain.late(p, l, what));
        due("bears(" + p + ")", lent.bears(p), plain.bears(p));
        int seed = lot(9) == 0 ? some(1000001) : lot(1000001), n = some(20) + 1, q = lot(3) == 0 ? some(65) : lot(12);
        due("years(" + seed + "," + n + "," + q + ")", lent.years(seed, n, q), plain.years(seed, n, q));
    }

    /** All wants' things and all moves of a land, for one state. */
    private static void askAllGiven() {
        for (int w = 0; w < lent.count(3); w++) due("given(" + w + ")", lent.given(w), plain.given(w));
        int s = lot(Math.max(1, lent.count(1)));
        for (int w = 0; w < lent.count(3); w++) {
            int a = lent.want(w, 2), b = lent.want(w, 3);
            int what = lot(3);
            if (lot(2) == 0) due("moves(" + s + "," + a + "," + what + ")", lent.moves(s, a, what), plain.moves(s, a, what));
            else due("moves(" + s + "," + b + "," + what + ")", lent.moves(s, b, what), plain.moves(s, b, what));
        }
    }

    private static void askBook() {
        int what = some(4);
        due("earth(" + what + ")", lent.earth(what), plain.earth(what));
    }

    private static void runLand() {
        lent = new OnlyLent();
        plain = new PlainLent();
        calls = new StringBuilder();
        if (lot(10) == 0) for (int i = 0; i < 5; i++) { change(); askHeld(); askMet(); askGiven(); askBook(); }
        for (int land = lot(1, 2); land > 0; land--) {
            feed(landText());
            due("fault()", lent.fault(), plain.fault());
            due("land()", lent.land(), plain.land());
            askAllGiven();
            int more = lot(1, 18);
            for (int i = 0; i < more; i++) {
                change();
                askHeld();
            }
            for (int i = 0; i < 3; i++) {
                askMet();
                askGiven();
                askBook();
            }
        }
    }

    private static void runFaults() {
        lent = new OnlyLent();
        plain = new PlainLent();
        calls = new StringBuilder();
        for (int i = 0; i < 8; i++) {
            feed(spoiled(landText()));
            due("fault()", lent.fault(), plain.fault());
            due("land()", lent.land(), plain.land());
            due("count(10)", lent.count(10), plain.count(10));
            due("status(2)", lent.status(2), plain.status(2));
        }
    }

    public static void main(String[] args) {
        int runs = args.length > 0 ? Integer.parseInt(args[0]) : 1000;
        x = args.length > 1 ? Long.parseLong(args[1]) : 1;
        for (int i = 0; i < runs; i++) {
            runLand();
            runFaults();
        }
        CHECK.finish();
    }
}
