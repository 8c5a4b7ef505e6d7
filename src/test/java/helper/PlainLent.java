import java.util.ArrayList;
import java.util.Arrays;
import java.util.List;
import java.util.regex.Matcher;
import java.util.regex.Pattern;

/** The document once more, in its plainest and slowest form, to hold the class against. */
final class PlainLent {
    static final int NONE = -1;
    static final int VOID = Integer.MIN_VALUE;
    private static final List<String> KEPT = List.of("person", "sort", "thing", "want", "hands", "road", "heir");
    private static final Pattern TOKEN = Pattern.compile("[a-z]+|[0-9]+|;");

    static final class Person { String name; int x; int heir = NONE; }
    static final class Sort { String name; int worth; }
    static final class Thing { int sort; int owner; List<int[]> chain = new ArrayList<>(); boolean lost; }
    static final class Want { int number; int person; int sort; int a; int b; int w; }
    static final class Move { int day; int from; int to; boolean last; }

    static final class Land {
        List<Person> people = new ArrayList<>();
        List<Sort> sorts = new ArrayList<>();
        List<Thing> things = new ArrayList<>();
        List<Want> wants = new ArrayList<>();
        int hands = NONE;
        int road = NONE;

        int personNamed(String name) {
            for (int i = 0; i < people.size(); i++) if (people.get(i).name.equals(name)) return i;
            return NONE;
        }

        int sortNamed(String name) {
            for (int i = 0; i < sorts.size(); i++) if (sorts.get(i).name.equals(name)) return i;
            return NONE;
        }
    }

    static final class Image { int day; int carried; int law; List<List<int[]>> chains = new ArrayList<>(); List<Boolean> lost = new ArrayList<>(); }

    private String text = "";
    private Land land = null;
    private Land read = null;
    private int day, carried, law;
    private List<int[]> book = new ArrayList<>();
    private Image[] images = new Image[3];
    private int[] refused = new int[3];

    private int refuse(int reason) { refused[reason]++; return NONE; }

    private boolean deny(int reason) { refused[reason]++; return false; }

    // ---- text

    int feed(int a, int b, int c, int d, int e) {
        if (text.length() + 20 > 500) return refuse(1);
        StringBuilder more = new StringBuilder(text);
        for (int n : new int[] {a, b, c, d, e})
            for (int shift = 24; shift >= 0; shift -= 8) more.append((char) (n >>> shift & 255));
        text = more.toString();
        return text.length();
    }

    boolean end(int n) {
        if (n < 0 || n > text.length()) return deny(2);
        text = text.substring(0, n);
        return true;
    }

    static final class Fault extends RuntimeException {
        private static final long serialVersionUID = 1L;
        final int place;
        Fault(int place) { this.place = place; }
    }

    private List<String> tokens;
    private List<Integer> starts;
    private int next;

    private void tokenize() {
        tokens = new ArrayList<>();
        starts = new ArrayList<>();
        Matcher m = TOKEN.matcher(text);
        int at = 0;
        while (true) {
            while (at < text.length() && (text.charAt(at) == ' ' || text.charAt(at) == '\n')) at++;
            starts.add(at);
            if (at == text.length()) { tokens.add(""); return; }
            m.region(at, text.length());
            if (!m.lookingAt()) { tokens.add("?"); return; }
            tokens.add(m.group());
            at = m.end();
        }
    }

    private void must(boolean ok) { if (!ok) throw new Fault(starts.get(next)); }

    private String take() { String t = tokens.get(next); next++; return t; }

    private int number(int least, int most) {
        String t = tokens.get(next);
        must(t.matches("[0-9]+"));
        java.math.BigInteger n = new java.math.BigInteger(t);
        must(n.compareTo(java.math.BigInteger.valueOf(least)) >= 0 && n.compareTo(java.math.BigInteger.valueOf(most)) <= 0);
        next++;
        return n.intValue();
    }

    private String fresh() {
        String t = tokens.get(next);
        must(t.matches("[a-z]{1,8}") && !KEPT.contains(t) && read.personNamed(t) < 0 && read.sortNamed(t) < 0);
        return take();
    }

    private int toldPerson() { int p = read.personNamed(tokens.get(next)); must(p >= 0); next++; return p; }

    private int toldSort() { int s = read.sortNamed(tokens.get(next)); must(s >= 0); return s; }

    private void stop() { must(tokens.get(next).equals(";")); next++; }

    int fault() {
        tokenize();
        next = 0;
        read = new Land();
        try {
            while (!tokens.get(next).isEmpty()) line();
        } catch (Fault fault) {
            return fault.place;
        }
        return read.people.isEmpty() || read.sorts.isEmpty() ? text.length() : NONE;
    }

    private void line() {
        switch (tokens.get(next)) {
            case "person": {
                must(read.people.size() < 8); next++;
                Person p = new Person(); p.name = fresh(); p.x = number(0, 99); stop(); read.people.add(p); return;
            }
            case "sort": {
                must(read.sorts.size() < 4); next++;
                Sort s = new Sort(); s.name = fresh(); s.worth = number(1, 99); stop(); read.sorts.add(s); return;
            }
            case "thing": {
                must(read.things.size() < 12); next++;
                Thing t = new Thing(); t.sort = toldSort();
                must(read.things.stream().filter(o -> o.sort == t.sort).count() < 4); next++;
                t.owner = toldPerson(); stop(); t.chain.add(new int[] {t.owner, NONE}); read.things.add(t); return;
            }
            case "want": {
                must(read.wants.size() < 12); next++;
                Want w = new Want(); w.number = read.wants.size(); w.person = toldPerson(); w.sort = toldSort();
                must(read.wants.stream().filter(o -> o.sort == w.sort).count() < 6); next++;
                w.a = number(0, 60); w.b = number(w.a + 1, 60); w.w = number(1, 99); stop(); read.wants.add(w); return;
            }
            case "hands": { must(read.hands < 0); next++; int h = number(1, 9); stop(); read.hands = h; return; }
            case "road": { must(read.road < 0); next++; int c = number(1, 20); stop(); read.road = c; return; }
            case "heir": {
                next++;
                int p = read.personNamed(tokens.get(next));
                must(p >= 0 && read.people.get(p).heir < 0); next++;
                int q = read.personNamed(tokens.get(next));
                must(q >= 0 && q != p); next++;
                stop(); read.people.get(p).heir = q; return;
            }
            default: must(false);
        }
    }

    int land() {
        if (fault() != NONE) return refuse(2);
        land = read;
        text = "";
        day = 0; carried = 0; law = 0;
        book = new ArrayList<>();
        images = new Image[3];
        return land.people.size();
    }

    // ---- queries of the land

    private boolean isPerson(int p) { return land != null && p >= 0 && p < land.people.size(); }
    private boolean isSort(int s) { return land != null && s >= 0 && s < land.sorts.size(); }
    private boolean isThing(int t) { return land != null && t >= 0 && t < land.things.size(); }
    private boolean isWant(int w) { return land != null && w >= 0 && w < land.wants.size(); }
    private int hands() { return land.hands < 0 ? 9 : land.hands; }
    private int road() { return land.road < 0 ? 20 : land.road; }
    private int x(int person) { return land.people.get(person).x; }
    private int[] top(Thing t) { return t.chain.get(t.chain.size() - 1); }

    int person(int p, int what) {
        if (!isPerson(p)) return NONE;
        if (what == 0) return x(p);
        if (what == 1) return land.people.get(p).heir;
        if (what == 2) return (int) land.things.stream().filter(t -> !t.lost && top(t)[0] == p).count();
        return NONE;
    }

    int want(int n, int what) {
        if (!isWant(n) || what < 0 || what > 4) return NONE;
        Want w = land.wants.get(n);
        return new int[] {w.person, w.sort, w.a, w.b, w.w}[what];
    }

    int thing(int n, int what) {
        if (!isThing(n) || what < 0 || what > 5) return NONE;
        Thing t = land.things.get(n);
        return new int[] {t.sort, t.owner, top(t)[0], top(t)[1], t.chain.size(), t.lost ? 1 : 0}[what];
    }

    int chain(int n, int k, int what) {
        if (!isThing(n) || what < 0 || what > 1) return NONE;
        Thing t = land.things.get(n);
        return k < 0 || k >= t.chain.size() ? NONE : t.chain.get(k)[what];
    }

    // ---- loans

    int lend(int n, int p, int due) {
        if (!isThing(n) || !isPerson(p)) return refuse(0);
        Thing t = land.things.get(n);
        boolean ok = !t.lost && t.chain.size() - 1 < hands() && due > day && due <= 60;
        ok = ok && (t.chain.size() == 1 || due <= top(t)[1]);
        for (int[] link : t.chain) ok = ok && link[0] != p;
        if (!ok) return refuse(2);
        int far = Math.abs(x(top(t)[0]) - x(p));
        t.chain.add(new int[] {p, due});
        carried += far;
        return far;
    }

    int back(int n) {
        if (!isThing(n)) return refuse(0);
        Thing t = land.things.get(n);
        if (t.lost || t.chain.size() == 1) return refuse(2);
        int from = t.chain.remove(t.chain.size() - 1)[0];
        int far = Math.abs(x(from) - x(top(t)[0]));
        carried += far;
        return far;
    }

    int go(int n) {
        if (land == null || n < 1 || n > 60 || day + n > 60) return refuse(2);
        int sum = 0;
        for (int i = 0; i < n; i++) {
            day++;
            for (Thing t : land.things) {
                if (t.lost) continue;
                int from = top(t)[0];
                t.chain.removeIf(link -> link[1] != NONE && link[1] <= day);
                sum += Math.abs(x(from) - x(top(t)[0]));
            }
        }
        carried += sum;
        return sum;
    }

    boolean lose(int n) {
        if (!isThing(n)) return deny(0);
        if (land.things.get(n).lost) return deny(2);
        land.things.get(n).lost = true;
        return true;
    }

    boolean law(int n) {
        if (n != 0 && n != 1) return deny(0);
        law = n;
        return true;
    }

    int owes(int p, int q) {
        if (!isPerson(p) || !isPerson(q)) return NONE;
        int sum = 0;
        for (Thing t : land.things) {
            if (!t.lost || t.chain.size() < 2) continue;
            int worth = land.sorts.get(t.sort).worth;
            if (law == 1 && top(t)[0] == p && t.chain.get(0)[0] == q) sum += worth;
            for (int k = 1; law == 0 && k < t.chain.size(); k++)
                if (t.chain.get(k)[0] == p && t.chain.get(k - 1)[0] == q) sum += worth;
        }
        return sum;
    }

    int balance(int p) {
        if (!isPerson(p)) return VOID;
        int sum = 0;
        for (int q = 0; q < land.people.size(); q++) sum += owes(q, p) - owes(p, q);
        return sum;
    }

    // ---- met

    private int left(int sort) {
        int n = 0;
        for (Thing t : land.things) if (!t.lost && t.sort == sort) n++;
        return n;
    }

    /** Whether on no day more wants of the bits are than there is room; wants of a sort, or of all with sort NONE. */
    private boolean fits(List<Want> wants, int bits, int[] room) {
        for (int d = 0; d < 60; d++) {
            int n = 0;
            for (Want w : wants) if ((bits >> w.number & 1) == 1 && w.a <= d && d < w.b) n++;
            if (n > room[d]) return false;
        }
        return true;
    }

    private static int weight(List<Want> wants, int bits) {
        int sum = 0;
        for (Want w : wants) if ((bits >> w.number & 1) == 1) sum += w.w;
        return sum;
    }

    /** The bits that are met of some wants, of which some must be; NONE if none can be. */
    private int best(List<Want> wants, int pool, int must, int[] room) {
        int best = NONE;
        for (int bits = 0; bits < 4096; bits++) {
            if ((bits & ~pool) != 0 || (bits & must) != must) continue;
            if (best != NONE) {
                int more = weight(wants, bits) - weight(wants, best);
                if (more < 0 || (more == 0 && Integer.bitCount(bits) >= Integer.bitCount(best))) continue;
            }
            if (fits(wants, bits, room)) best = bits;
        }
        return best;
    }

    private static int[] room(int n) { int[] room = new int[60]; Arrays.fill(room, n); return room; }

    private int pool(int sort) {
        int bits = 0;
        for (Want w : land.wants) if (w.sort == sort) bits |= 1 << w.number;
        return bits;
    }

    private int metBits() {
        int bits = 0;
        for (int s = 0; s < land.sorts.size(); s++) bits |= best(land.wants, pool(s), 0, room(left(s)));
        return bits;
    }

    int met(int what) {
        if (land == null || what < 0 || what > 1) return NONE;
        return what == 0 ? metBits() : weight(land.wants, metBits());
    }

    int shorts(int what) {
        if (land == null || what < 0 || what > 1) return NONE;
        for (int d = 0; d < 60; d++)
            for (int s = 0; s < land.sorts.size(); s++) {
                int n = 0;
                for (Want w : land.wants) if (w.sort == s && w.a <= d && d < w.b) n++;
                if (n > left(s)) return what == 0 ? d : s;
            }
        return NONE;
    }

    int price(int sort, int d) {
        if (!isSort(sort) || d < 0 || d > 59) return NONE;
        int[] room = room(left(sort));
        int less = weight(land.wants, best(land.wants, pool(sort), 0, room));
        room[d]++;
        return weight(land.wants, best(land.wants, pool(sort), 0, room)) - less;
    }

    int longer(int n, int m) {
        if (!isWant(n) || m < 1 || m > 60 || land.wants.get(n).b + m > 60) return NONE;
        Want w = land.wants.get(n);
        int now = weight(land.wants, best(land.wants, pool(w.sort), 0, room(left(w.sort))));
        w.b += m;
        int then = best(land.wants, pool(w.sort), 1 << n, room(left(w.sort)));
        w.b -= m;
        return then == NONE ? NONE : now - weight(land.wants, then);
    }

    int other() {
        if (land == null) return NONE;
        int things = 0;
        for (Thing t : land.things) if (!t.lost) things++;
        int all = (1 << land.wants.size()) - 1;
        return weight(land.wants, best(land.wants, all, 0, room(things))) - met(1);
    }

    // ---- given

    /** Bits of home of the way, or null if h is too few; far[0] is how far. */
    private int way(Thing t, List<Want> line, int h, int[] far) {
        int home = x(t.owner);
        int n = line.size();
        int bestBits = NONE;
        far[0] = 0;
        if (n == 0) return 0;
        for (int bits = 0; bits < 1 << n; bits++) {
            if ((bits >> (n - 1) & 1) == 0) continue;
            int sum = 0, place = home, out = 0;
            boolean ok = true;
            for (int i = 0; i < n; i++) {
                int p = x(line.get(i).person);
                sum += Math.abs(place - p);
                place = p;
                out++;
                ok &= out <= h;
                if ((bits >> i & 1) == 1) { sum += Math.abs(place - home); place = home; out = 0; }
            }
            if (!ok) continue;
            if (bestBits == NONE || sum < far[0]
                || (sum == far[0] && Integer.bitCount(bits) < Integer.bitCount(bestBits))) {
                bestBits = bits;
                far[0] = sum;
            }
        }
        return bestBits;
    }

    private static List<Want> line(List<Want> wants, int[] to, int thing) {
        List<Want> line = new ArrayList<>();
        for (Want w : wants) if (to[w.number] == thing) line.add(w);
        line.sort((v, w) -> v.a - w.a);
        return line;
    }

    private int[] bestTo;
    private int bestFar;

    /** Gives things to the i-th want on, in the order of wants and things, so that the first of the least is kept. */
    private void give(List<Want> wants, int i, int[] to, int sort, int h) {
        if (i == wants.size()) {
            int sum = 0;
            int[] far = new int[1];
            for (int t = 0; t < land.things.size(); t++) {
                if (land.things.get(t).sort != sort) continue;
                way(land.things.get(t), line(wants, to, t), h, far);
                sum += far[0];
            }
            if (bestTo == null || sum < bestFar) { bestTo = to.clone(); bestFar = sum; }
            return;
        }
        Want w = wants.get(i);
        for (int t = 0; t < land.things.size(); t++) {
            if (land.things.get(t).sort != sort || land.things.get(t).lost) continue;
            boolean free = true;
            for (int j = 0; j < i; j++) {
                Want v = wants.get(j);
                if (to[v.number] == t && v.a < w.b && w.a < v.b) free = false;
            }
            if (!free) continue;
            to[w.number] = t;
            give(wants, i + 1, to, sort, h);
            to[w.number] = NONE;
        }
    }

    private int[] giveSort(int sort, int h) {
        List<Want> wants = new ArrayList<>();
        int bits = metBits();
        for (Want w : land.wants) if (w.sort == sort && (bits >> w.number & 1) == 1) wants.add(w);
        int[] to = new int[12];
        Arrays.fill(to, NONE);
        bestTo = null;
        give(wants, 0, to, sort, h);
        return bestTo;
    }

    private int[] allGiven() {
        int[] all = new int[12];
        Arrays.fill(all, NONE);
        for (int s = 0; s < land.sorts.size(); s++) {
            int[] to = giveSort(s, hands());
            for (int i = 0; i < 12; i++) if (to[i] != NONE) all[i] = to[i];
        }
        return all;
    }

    int given(int n) { return isWant(n) ? allGiven()[n] : NONE; }

    int carry(int sort, int h) {
        if (!isSort(sort) || h < -1 || h == 0 || h > 9) return NONE;
        giveSort(sort, h == NONE ? hands() : h);
        return bestFar;
    }

    private List<Move> allMoves(int sort) {
        List<Move> moves = new ArrayList<>();
        int[] all = allGiven();
        for (int t = 0; t < land.things.size(); t++) {
            Thing thing = land.things.get(t);
            if (sort != NONE && thing.sort != sort) continue;
            List<Want> line = line(land.wants, all, t);
            int bits = way(thing, line, hands(), new int[1]);
            int home = x(thing.owner);
            for (int i = 0; i < line.size(); i++) {
                Want w = line.get(i);
                int p = x(w.person);
                boolean straight = i > 0 && (bits >> (i - 1) & 1) == 0;
                move(moves, w.a, straight ? x(line.get(i - 1).person) : home, p, false);
                if ((bits >> i & 1) == 1) move(moves, w.b, p, home, i == line.size() - 1);
            }
        }
        return moves;
    }

    private static void move(List<Move> moves, int day, int from, int to, boolean last) {
        if (from == to) return;
        Move m = new Move();
        m.day = day; m.from = from; m.to = to; m.last = last;
        moves.add(m);
    }

    int moves(int sort, int d, int what) {
        if (!isSort(sort) || d < 0 || d > 60 || what < 0 || what > 2) return NONE;
        List<Move> moves = allMoves(sort);
        moves.removeIf(m -> m.day != d);
        if (what == 0) return moves.size();
        if (what == 1) return moves.stream().mapToInt(m -> Math.abs(m.from - m.to)).sum();
        int[] least = new int[1 << moves.size()];
        for (int bits = 1; bits < least.length; bits++) {
            least[bits] = Integer.MAX_VALUE;
            int from = moves.get(Integer.bitCount(bits) - 1).from;
            for (int j = 0; j < moves.size(); j++)
                if ((bits >> j & 1) == 1)
                    least[bits] = Math.min(least[bits], least[bits & ~(1 << j)] + Math.abs(from - moves.get(j).to));
        }
        return least[least.length - 1];
    }

    /** All ways to let so many of those that wait go on each day are tried. */
    int spread() {
        if (land == null) return NONE;
        int[] fixed = new int[61];
        int[] free = new int[61];
        int all = 0;
        for (Move m : allMoves(NONE)) {
            if (m.last) { free[m.day]++; all++; } else fixed[m.day]++;
        }
        int far = 1 << 20;
        int[] least = new int[all + 1];
        Arrays.fill(least, far);
        least[0] = 0;
        for (int d = 0; d <= 60; d++) {
            if (fixed[d] > road()) return NONE;
            int[] then = new int[all + 1];
            Arrays.fill(then, far);
            for (int waits = 0; waits <= all; waits++) {
                if (least[waits] >= far) continue;
                for (int go = 0; go <= waits + free[d] && go <= road() - fixed[d]; go++) {
                    int stay = waits + free[d] - go;
                    then[stay] = Math.min(then[stay], least[waits] + stay);
                }
            }
            least = then;
        }
        return least[0] >= far ? NONE : least[0];
    }

    // ---- late, dies

    private int[] hurt(int[] all, int person, int l) {
        int bits = 0, sum = 0;
        for (int t = 0; t < land.things.size(); t++) {
            int then = NONE;
            for (Want w : line(land.wants, all, t)) {
                int begins = Math.max(w.a, then);
                if (begins > w.a) {
                    bits |= 1 << w.number;
                    sum += w.w * Math.min(begins - w.a, w.b - w.a) / (w.b - w.a);
                }
                if (begins < w.b) then = w.person == person ? w.b + l : w.b;
            }
        }
        return new int[] {bits, sum};
    }

    int late(int p, int l, int what) {
        return !isPerson(p) || l < 1 || l > 60 || what < 0 || what > 1 ? NONE : hurt(allGiven(), p, l)[what];
    }

    int bears(int p) {
        if (!isPerson(p)) return NONE;
        int most = 0;
        int[] all = allGiven();
        for (int l = 1; l <= 60; l++) if (hurt(all, p, l)[0] == 0) most = l;
        return most;
    }

    int dies(int p, int d, int what) {
        if (!isPerson(p) || d < 0 || d > 60 || what < 0 || what > 1) return NONE;
        int bits = metBits();
        int lost = 0, had = 0, could = 0;
        for (Want w : land.wants) {
            if ((bits >> w.number & 1) == 0) continue;
            if (w.person != p) had += w.w;
            else if (w.b > d) lost += w.w * Math.min(w.b - d, w.b - w.a) / (w.b - w.a);
        }
        for (int s = 0; s < land.sorts.size(); s++) {
            int pool = pool(s);
            for (Want w : land.wants) if (w.person == p) pool &= ~(1 << w.number);
            could += weight(land.wants, best(land.wants, pool, 0, room(left(s))));
        }
        return what == 0 ? lost : could - had;
    }

    // ---- book

    int entry(int from, int to) {
        if (!isPerson(from) || !isPerson(to)) return refuse(0);
        if (book.size() == 10) return refuse(1);
        if (from == to) return refuse(2);
        book.add(new int[] {from, to});
        return book.size();
    }

    int undo() {
        if (book.isEmpty()) return refuse(2);
        book.remove(book.size() - 1);
        return book.size();
    }

    private boolean isTrue(int bits, int first) {
        List<Integer> chain = new ArrayList<>(List.of(first));
        for (int i = 0; i < book.size(); i++) {
            if ((bits >> i & 1) == 0) continue;
            int giver = chain.indexOf(book.get(i)[0]);
            if (giver < 0) return false;
            chain = new ArrayList<>(chain.subList(0, giver + 1));
            if (chain.contains(book.get(i)[1])) return false;
            chain.add(book.get(i)[1]);
        }
        return true;
    }

    int earth(int what) {
        if (land == null || what < 0 || what > 3) return NONE;
        int most = -1, first = 0, which = 0, rivals = 0;
        for (int p = 0; p < land.people.size(); p++) {
            int best = 0;
            for (int bits = 0; bits < 1 << book.size(); bits++)
                if (isTrue(bits, p) && Integer.bitCount(bits) > Integer.bitCount(best)) best = bits;
            int n = Integer.bitCount(best);
            if (n > most) { most = n; first = p; which = best; rivals = 0; }
            if (n == most) rivals |= 1 << p;
        }
        return new int[] {first, most, which, rivals}[what];
    }

    // ---- years, images, counts

    int years(int seed, int n, int q) {
        if (land == null || seed < 0 || seed > 1000000 || n < 1 || n > 20 || q < 0 || q > 64) return NONE;
        java.math.BigInteger x = java.math.BigInteger.valueOf(seed);
        int[] all = allGiven();
        int sum = 0;
        for (int year = 0; year < n; year++)
            for (int t = 0; t < land.things.size(); t++)
                for (Want w : line(land.wants, all, t)) {
                    x = x.multiply(java.math.BigInteger.valueOf(1103515245)).add(java.math.BigInteger.valueOf(12345))
                        .mod(java.math.BigInteger.ONE.shiftLeft(31));
                    sum += w.w;
                    if (x.longValue() / 256 % 64 < q) break;
                }
        return sum;
    }

    boolean image(int k) {
        if (k < 0 || k > 2) return deny(0);
        if (land == null) return deny(2);
        Image i = new Image();
        i.day = day; i.carried = carried; i.law = law;
        for (Thing t : land.things) { i.chains.add(new ArrayList<>(t.chain)); i.lost.add(t.lost); }
        images[k] = i;
        return true;
    }

    boolean on(int k) {
        if (k < 0 || k > 2 || images[k] == null) return deny(0);
        Image i = images[k];
        day = i.day; carried = i.carried; law = i.law;
        for (int t = 0; t < land.things.size(); t++) {
            land.things.get(t).chain = new ArrayList<>(i.chains.get(t));
            land.things.get(t).lost = i.lost.get(t);
        }
        return true;
    }

    int status(int reason) { return reason < 0 || reason > 2 ? NONE : refused[reason]; }

    int count(int what) {
        if (what == 10) return text.length();
        if (what < 0 || what > 10) return NONE;
        if (land == null) return 0;
        return new int[] {land.people.size(), land.sorts.size(), land.things.size(), land.wants.size(), day, carried,
            hands(), road(), law, book.size()}[what];
    }
}
