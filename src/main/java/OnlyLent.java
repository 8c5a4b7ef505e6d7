import java.util.Arrays;

/**
 * Nothing given, only lent: a land told in a text, the chains of loans of its things, the wants that are met,
 * who gets which thing, and what comes of one who is late, of a death, of a loss and of an old book.
 */
public final class OnlyLent {
    public static final int NONE = -1;
    public static final int VOID = -2147483648;

    private static final int MOST_PEOPLE = 8;
    private static final int MOST_SORTS = 4;
    private static final int MOST_THINGS = 12;
    private static final int MOST_WANTS = 12;
    private static final int THINGS_OF_SORT = 4;
    private static final int WANTS_OF_SORT = 6;
    private static final int MOST_HANDS = 9;
    private static final int MOST_ROAD = 20;
    private static final int MOST_PLACE = 99;
    private static final int MOST_WORTH = 99;
    private static final int LAST_DAY = 60;
    private static final int TEXT_ROOM = 500;
    private static final int FEED_BYTES = 20;
    private static final int MOST_ENTRIES = 10;
    private static final int IMAGES = 3;
    private static final int LAWS = 2;
    private static final int MOST_YEARS = 20;
    private static final int LOTS = 64;
    private static final int MOST_SEED = 1000000;

    private static final int NO_SUCH = 0;
    private static final int NO_ROOM = 1;
    private static final int NOT_SO = 2;
    private static final int REASONS = 3;

    private final Text text = new Text();
    private final Reader reader = new Reader(text);
    private final Holdings now = new Holdings();
    private final Holdings[] images = new Holdings[IMAGES];
    private final Choice choice = new Choice();
    private final Plan plan = new Plan(choice);
    private final Lateness lateness = new Lateness();
    private final Book book = new Book();
    private final int[] refused = new int[REASONS];
    private Land told = new Land();
    private Land spare = new Land();
    private boolean hasLand = false;

    public OnlyLent() {
        for (int k = 0; k < images.length; k++) {
            images[k] = new Holdings();
        }
    }

    // ---- the text

    public int feed(int a, int b, int c, int d, int e) {
        if (!text.hasRoom(FEED_BYTES)) {
            return refuse(NO_ROOM);
        }
        text.addNumber(a);
        text.addNumber(b);
        text.addNumber(c);
        text.addNumber(d);
        text.addNumber(e);
        return text.size();
    }

    public boolean end(int n) {
        if (n < 0 || n > text.size()) {
            return deny(NOT_SO);
        }
        text.cut(n);
        return true;
    }

    public int fault() {
        return reader.read(spare);
    }

    public int land() {
        if (reader.read(spare) != NONE) {
            return refuse(NOT_SO);
        }
        Land fresh = spare;
        spare = told;
        told = fresh;
        hasLand = true;
        text.cut(0);
        now.begin(told);
        dropImages();
        book.clear();
        plan.forget();
        return told.people();
    }

    // ---- what the land tells

    public int person(int person, int what) {
        if (!told.isPerson(person)) {
            return NONE;
        }
        switch (what) {
            case 0:
                return told.placeOf(person);
            case 1:
                return told.heirOf(person);
            case 2:
                return now.heldBy(told, person);
            default:
                return NONE;
        }
    }

    public int want(int want, int what) {
        if (!told.isWant(want)) {
            return NONE;
        }
        switch (what) {
            case 0:
                return told.whoWants(want);
            case 1:
                return told.sortOfWant(want);
            case 2:
                return told.fromOf(want);
            case 3:
                return told.tillOf(want);
            case 4:
                return told.weightOf(want);
            default:
                return NONE;
        }
    }

    public int thing(int thing, int what) {
        if (!told.isThing(thing)) {
            return NONE;
        }
        switch (what) {
            case 0:
                return told.sortOfThing(thing);
            case 1:
                return told.ownerOf(thing);
            case 2:
                return now.holderOf(thing);
            case 3:
                return now.tillAt(thing, now.depthOf(thing) - 1);
            case 4:
                return now.depthOf(thing);
            case 5:
                return now.isLost(thing) ? 1 : 0;
            default:
                return NONE;
        }
    }

    public int chain(int thing, int k, int what) {
        if (!told.isThing(thing) || k < 0 || k >= now.depthOf(thing)) {
            return NONE;
        }
        switch (what) {
            case 0:
                return now.whoAt(thing, k);
            case 1:
                return now.tillAt(thing, k);
            default:
                return NONE;
        }
    }

    // ---- loans, days, losses

    public int lend(int thing, int person, int due) {
        if (!told.isThing(thing) || !told.isPerson(person)) {
            return refuse(NO_SUCH);
        }
        if (!now.mayLend(thing, person, due, told.hands())) {
            return refuse(NOT_SO);
        }
        return now.hand(told, thing, person, due);
    }

    public int back(int thing) {
        if (!told.isThing(thing)) {
            return refuse(NO_SUCH);
        }
        if (now.isLost(thing) || now.depthOf(thing) < 2) {
            return refuse(NOT_SO);
        }
        return now.giveBack(told, thing);
    }

    public int go(int n) {
        if (!hasLand || n < 1 || n > LAST_DAY - now.today()) {
            return refuse(NOT_SO);
        }
        int far = 0;
        for (int i = 0; i < n; i++) {
            far += now.passDay(told);
        }
        return far;
    }

    public boolean lose(int thing) {
        if (!told.isThing(thing)) {
            return deny(NO_SUCH);
        }
        if (now.isLost(thing)) {
            return deny(NOT_SO);
        }
        now.setLost(thing);
        return true;
    }

    public boolean law(int law) {
        if (law < 0 || law >= LAWS) {
            return deny(NO_SUCH);
        }
        now.setLaw(law);
        return true;
    }

    public int owes(int person, int other) {
        if (!told.isPerson(person) || !told.isPerson(other)) {
            return NONE;
        }
        return now.debt(told, person, other);
    }

    public int balance(int person) {
        if (!told.isPerson(person)) {
            return VOID;
        }
        int sum = 0;
        for (int one = 0; one < told.people(); one++) {
            sum += now.debt(told, one, person) - now.debt(told, person, one);
        }
        return sum;
    }

    // ---- wants that are met

    public int met(int what) {
        if (!hasLand || what < 0 || what > 1) {
            return NONE;
        }
        prepare();
        return what == 0 ? plan.metBits() : told.weightOfAll(plan.metBits());
    }

    public int shorts(int what) {
        if (!hasLand || what < 0 || what > 1) {
            return NONE;
        }
        for (int day = 0; day < LAST_DAY; day++) {
            for (int sort = 0; sort < told.sorts(); sort++) {
                if (told.wantsOn(sort, day) > told.thingsLeft(sort, now.lostBits())) {
                    return what == 0 ? day : sort;
                }
            }
        }
        return NONE;
    }

    public int price(int sort, int day) {
        if (!told.isSort(sort) || day < 0 || day >= LAST_DAY) {
            return NONE;
        }
        prepare();
        choice.setMoreOn(day);
        int more = choice.most(told, told.wantsOfSort(sort), told.thingsLeft(sort, now.lostBits()));
        return more - metOfSort(sort);
    }

    public int longer(int want, int m) {
        if (!told.isWant(want) || m < 1 || m > LAST_DAY || told.tillOf(want) + m > LAST_DAY) {
            return NONE;
        }
        prepare();
        int sort = told.sortOfWant(want);
        choice.setLonger(want, m);
        int less = choice.most(told, told.wantsOfSort(sort), told.thingsLeft(sort, now.lostBits()));
        return less == NONE ? NONE : metOfSort(sort) - less;
    }

    public int other() {
        if (!hasLand) {
            return NONE;
        }
        prepare();
        int all = (1 << told.wants()) - 1;
        int room = told.things() - Integer.bitCount(now.lostBits());
        return choice.most(told, all, room) - told.weightOfAll(plan.metBits());
    }

    // ---- who gets which thing

    public int given(int want) {
        if (!told.isWant(want)) {
            return NONE;
        }
        prepare();
        return plan.thingFor(want);
    }

    public int carry(int sort, int h) {
        if (!told.isSort(sort) || (h != NONE && (h < 1 || h > MOST_HANDS))) {
            return NONE;
        }
        prepare();
        return plan.waysOf(told, sort, h == NONE ? told.hands() : h);
    }

    public int moves(int sort, int day, int what) {
        if (!told.isSort(sort) || day < 0 || day > LAST_DAY) {
            return NONE;
        }
        prepare();
        Trips trips = plan.allTrips();
        switch (what) {
            case 0:
                return trips.howMany(sort, day);
            case 1:
                return trips.howFar(sort, day);
            case 2:
                return trips.exchanged(sort, day);
            default:
                return NONE;
        }
    }

    public int spread() {
        if (!hasLand) {
            return NONE;
        }
        prepare();
        return plan.allTrips().daysLater(told.road());
    }

    // ---- one who is late, a death

    public int late(int person, int l, int what) {
        if (!told.isPerson(person) || l < 1 || l > LAST_DAY || what < 0 || what > 1) {
            return NONE;
        }
        prepare();
        lateness.reckon(told, plan, person, l);
        return what == 0 ? lateness.hurtBits() : lateness.lostWeight();
    }

    public int bears(int person) {
        if (!told.isPerson(person)) {
            return NONE;
        }
        prepare();
        return lateness.mostBorne(told, plan, person);
    }

    public int dies(int person, int day, int what) {
        if (!told.isPerson(person) || day < 0 || day > LAST_DAY || what < 0 || what > 1) {
            return NONE;
        }
        prepare();
        return what == 0 ? lostByDeath(person, day) : freedByDeath(person);
    }

    // ---- the book

    public int entry(int from, int to) {
        if (!told.isPerson(from) || !told.isPerson(to)) {
            return refuse(NO_SUCH);
        }
        if (book.entries() >= MOST_ENTRIES) {
            return refuse(NO_ROOM);
        }
        if (from == to) {
            return refuse(NOT_SO);
        }
        book.write(from, to);
        return book.entries();
    }

    public int undo() {
        if (book.entries() == 0) {
            return refuse(NOT_SO);
        }
        book.strike();
        return book.entries();
    }

    public int earth(int what) {
        if (!hasLand) {
            return NONE;
        }
        book.seek(told.people());
        switch (what) {
            case 0:
                return book.first();
            case 1:
                return Integer.bitCount(book.trueBits());
            case 2:
                return book.trueBits();
            case 3:
                return book.rivalBits();
            default:
                return NONE;
        }
    }

    // ---- years, images, counts

    public int years(int seed, int n, int q) {
        if (!hasLand || seed < 0 || seed > MOST_SEED || n < 1 || n > MOST_YEARS || q < 0 || q > LOTS) {
            return NONE;
        }
        prepare();
        return plan.metInYears(told, seed, n, q);
    }

    public boolean image(int k) {
        Holdings kept = imageOf(k);
        if (kept == null) {
            return deny(NO_SUCH);
        }
        if (!hasLand) {
            return deny(NOT_SO);
        }
        kept.copyOf(now);
        kept.setKept(true);
        return true;
    }

    public boolean on(int k) {
        Holdings kept = imageOf(k);
        if (kept == null || !kept.isKept()) {
            return deny(NO_SUCH);
        }
        now.copyOf(kept);
        return true;
    }

    public int status(int reason) {
        return reason < 0 || reason >= REASONS ? NONE : at(refused, reason);
    }

    public int count(int what) {
        if (what == 10) {
            return text.size();
        }
        if (what < 0 || what > 10) {
            return NONE;
        }
        return hasLand ? countInLand(what) : 0;
    }

    // ---- what the face is made with

    private int countInLand(int what) {
        switch (what) {
            case 0:
                return told.people();
            case 1:
                return told.sorts();
            case 2:
                return told.things();
            case 3:
                return told.wants();
            case 4:
                return now.today();
            case 5:
                return now.carriedSoFar();
            case 6:
                return told.hands();
            case 7:
                return told.road();
            case 8:
                return now.lawNow();
            case 9:
                return book.entries();
            default:
                return NONE;
        }
    }

    private int refuse(int reason) {
        put(refused, reason, at(refused, reason) + 1);
        return NONE;
    }

    private boolean deny(int reason) {
        refuse(reason);
        return false;
    }

    private Holdings imageOf(int k) {
        return k >= 0 && k < images.length ? images[k] : null;
    }

    private void dropImages() {
        for (int k = 0; k < images.length; k++) {
            Holdings kept = images[k];
            if (kept != null) {
                kept.setKept(false);
            }
        }
    }

    private void prepare() {
        plan.make(told, now.lostBits());
    }

    private int metOfSort(int sort) {
        return told.weightOfAll(plan.metBits() & told.wantsOfSort(sort));
    }

    private int lostByDeath(int person, int day) {
        int bits = plan.metBits() & told.wantsOfPerson(person);
        int sum = 0;
        for (int want = 0; want < told.wants(); want++) {
            if (hasBit(bits, want) && told.tillOf(want) > day) {
                sum += told.partOf(want, told.tillOf(want) - day);
            }
        }
        return sum;
    }

    private int freedByDeath(int person) {
        int others = ~told.wantsOfPerson(person);
        int sum = 0;
        for (int sort = 0; sort < told.sorts(); sort++) {
            sum += choice.most(told, told.wantsOfSort(sort) & others, told.thingsLeft(sort, now.lostBits()));
        }
        return sum - told.weightOfAll(plan.metBits() & others);
    }

    // ---- rows that are asked beyond their ends answer 0 and keep what they have

    private static int at(int[] row, int i) {
        return i >= 0 && i < row.length ? row[i] : 0;
    }

    private static void put(int[] row, int i, int value) {
        if (i >= 0 && i < row.length) {
            row[i] = value;
        }
    }

    private static long at(long[] row, int i) {
        return i >= 0 && i < row.length ? row[i] : 0L;
    }

    private static void put(long[] row, int i, long value) {
        if (i >= 0 && i < row.length) {
            row[i] = value;
        }
    }

    private static boolean hasBit(int bits, int i) {
        return (bits >> i & 1) != 0;
    }

    /** The bytes from which the next land comes. */
    private static final class Text {
        private final byte[] bytes = new byte[TEXT_ROOM];
        private int size = 0;

        int size() {
            return size;
        }

        boolean hasRoom(int more) {
            return size + more <= bytes.length;
        }

        void addNumber(int number) {
            addByte(number >> 24);
            addByte(number >> 16);
            addByte(number >> 8);
            addByte(number);
        }

        private void addByte(int number) {
            if (size >= 0 && size < bytes.length) {
                bytes[size] = (byte) number;
                size++;
            }
        }

        void cut(int n) {
            if (n >= 0 && n <= size) {
                size = n;
            }
        }

        /** The byte at a place, 0 to 255, or NONE behind the end. */
        int byteAt(int place) {
            return place >= 0 && place < size && place < bytes.length ? bytes[place] & 255 : NONE;
        }
    }

    /** Reads the text, token by token, into a land, up to the first token that can't stand. */
    private static final class Reader {
        private static final int END = 0;
        private static final int WORD = 1;
        private static final int NUMBER = 2;
        private static final int STOP = 3;
        private static final int ODD = 4;
        private static final int NAME_LETTERS = 8;
        private static final int TOO_MUCH = 1000;

        private final Text text;
        private int place = 0;
        private int start = 0;
        private int kind = END;
        private int number = 0;
        private long name = 0;

        Reader(Text text) {
            this.text = text;
        }

        /** Fills the land and answers the fault's place, or NONE. */
        int read(Land land) {
            land.clear();
            place = 0;
            step();
            for (int line = 0; line < TEXT_ROOM && kind != END; line++) {
                if (!readLine(land)) {
                    return start;
                }
            }
            return land.people() == 0 || land.sorts() == 0 ? text.size() : NONE;
        }

        private boolean readLine(Land land) {
            if (kind != WORD) {
                return false;
            }
            if (says("person")) {
                return land.people() < MOST_PEOPLE && readPerson(land);
            }
            if (says("sort")) {
                return land.sorts() < MOST_SORTS && readSort(land);
            }
            if (says("thing")) {
                return land.things() < MOST_THINGS && readThing(land);
            }
            if (says("want")) {
                return land.wants() < MOST_WANTS && readWant(land);
            }
            if (says("hands")) {
                return !land.handsTold() && readHands(land);
            }
            if (says("road")) {
                return !land.roadTold() && readRoad(land);
            }
            return says("heir") && readHeir(land);
        }

        private boolean readPerson(Land land) {
            step();
            if (!isNewName(land)) {
                return false;
            }
            long called = name;
            step();
            if (!isNumber(0, MOST_PLACE)) {
                return false;
            }
            int x = number;
            step();
            if (!closes()) {
                return false;
            }
            land.addPerson(called, x);
            return true;
        }

        private boolean readSort(Land land) {
            step();
            if (!isNewName(land)) {
                return false;
            }
            long called = name;
            step();
            if (!isNumber(1, MOST_WORTH)) {
                return false;
            }
            int worth = number;
            step();
            if (!closes()) {
                return false;
            }
            land.addSort(called, worth);
            return true;
        }

        private boolean readThing(Land land) {
            step();
            int sort = sortHere(land);
            if (sort == NONE || land.thingsLeft(sort, 0) >= THINGS_OF_SORT) {
                return false;
            }
            step();
            int person = personHere(land);
            if (person == NONE) {
                return false;
            }
            step();
            if (!closes()) {
                return false;
            }
            land.addThing(sort, person);
            return true;
        }

        private boolean readWant(Land land) {
            step();
            int person = personHere(land);
            if (person == NONE) {
                return false;
            }
            step();
            int sort = sortHere(land);
            if (sort == NONE || Integer.bitCount(land.wantsOfSort(sort)) >= WANTS_OF_SORT) {
                return false;
            }
            step();
            if (!isNumber(0, LAST_DAY)) {
                return false;
            }
            int from = number;
            step();
            if (!isNumber(from + 1, LAST_DAY)) {
                return false;
            }
            int till = number;
            step();
            if (!isNumber(1, MOST_WORTH)) {
                return false;
            }
            int weight = number;
            step();
            if (!closes()) {
                return false;
            }
            land.addWant(person, sort, from, till, weight);
            return true;
        }

        private boolean readHands(Land land) {
            step();
            if (!isNumber(1, MOST_HANDS)) {
                return false;
            }
            int most = number;
            step();
            if (!closes()) {
                return false;
            }
            land.tellHands(most);
            return true;
        }

        private boolean readRoad(Land land) {
            step();
            if (!isNumber(1, MOST_ROAD)) {
                return false;
            }
            int most = number;
            step();
            if (!closes()) {
                return false;
            }
            land.tellRoad(most);
            return true;
        }

        private boolean readHeir(Land land) {
            step();
            int person = personHere(land);
            if (person == NONE || land.heirOf(person) != NONE) {
                return false;
            }
            step();
            int next = personHere(land);
            if (next == NONE || next == person) {
                return false;
            }
            step();
            if (!closes()) {
                return false;
            }
            land.tellHeir(person, next);
            return true;
        }

        private boolean isNewName(Land land) {
            return kind == WORD && name != NONE && !isKept()
                && land.personNamed(name) == NONE && land.sortNamed(name) == NONE;
        }

        private boolean isKept() {
            return says("person") || says("sort") || says("thing") || says("want")
                || says("hands") || says("road") || says("heir");
        }

        private boolean isNumber(int least, int most) {
            return kind == NUMBER && number >= least && number <= most;
        }

        private int personHere(Land land) {
            return kind == WORD ? land.personNamed(name) : NONE;
        }

        private int sortHere(Land land) {
            return kind == WORD ? land.sortNamed(name) : NONE;
        }

        private boolean closes() {
            if (kind != STOP) {
                return false;
            }
            step();
            return true;
        }

        private boolean says(String word) {
            if (kind != WORD || place - start != word.length()) {
                return false;
            }
            for (int i = 0; i < word.length(); i++) {
                if (text.byteAt(start + i) != word.charAt(i)) {
                    return false;
                }
            }
            return true;
        }

        private void step() {
            while (place < text.size() && isBlank(text.byteAt(place))) {
                place++;
            }
            start = place;
            int first = text.byteAt(place);
            if (first == NONE) {
                kind = END;
            } else if (isLetter(first)) {
                kind = WORD;
                takeWord();
            } else if (isDigit(first)) {
                kind = NUMBER;
                takeNumber();
            } else {
                kind = first == ';' ? STOP : ODD;
                place++;
            }
        }

        /** A word's letters stand in five bits each; one too long for a name has NONE instead. */
        private void takeWord() {
            name = 0;
            while (place < text.size() && isLetter(text.byteAt(place))) {
                if (place - start < NAME_LETTERS) {
                    name = name * 32 + (text.byteAt(place) - 'a' + 1);
                } else {
                    name = NONE;
                }
                place++;
            }
        }

        private void takeNumber() {
            number = 0;
            while (place < text.size() && isDigit(text.byteAt(place))) {
                number = Math.min(number * 10 + (text.byteAt(place) - '0'), TOO_MUCH);
                place++;
            }
        }

        private static boolean isBlank(int sign) {
            return sign == 32 || sign == 10;
        }

        private static boolean isLetter(int sign) {
            return sign >= 'a' && sign <= 'z';
        }

        private static boolean isDigit(int sign) {
            return sign >= '0' && sign <= '9';
        }
    }

    /** What a text tells: people, sorts, things, wants, hands, road and heirs. */
    private static final class Land {
        private final long[] personNames = new long[MOST_PEOPLE];
        private final int[] places = new int[MOST_PEOPLE];
        private final int[] heirs = new int[MOST_PEOPLE];
        private final long[] sortNames = new long[MOST_SORTS];
        private final int[] worths = new int[MOST_SORTS];
        private final int[] thingSorts = new int[MOST_THINGS];
        private final int[] owners = new int[MOST_THINGS];
        private final int[] wanters = new int[MOST_WANTS];
        private final int[] wantSorts = new int[MOST_WANTS];
        private final int[] froms = new int[MOST_WANTS];
        private final int[] tills = new int[MOST_WANTS];
        private final int[] weights = new int[MOST_WANTS];
        private final int[] byFrom = new int[MOST_WANTS];
        private int people = 0;
        private int sorts = 0;
        private int things = 0;
        private int wants = 0;
        private int hands = NONE;
        private int road = NONE;

        void clear() {
            people = 0;
            sorts = 0;
            things = 0;
            wants = 0;
            hands = NONE;
            road = NONE;
        }

        void addPerson(long name, int place) {
            if (people < MOST_PEOPLE) {
                put(personNames, people, name);
                put(places, people, place);
                put(heirs, people, NONE);
                people++;
            }
        }

        void addSort(long name, int worth) {
            if (sorts < MOST_SORTS) {
                put(sortNames, sorts, name);
                put(worths, sorts, worth);
                sorts++;
            }
        }

        void addThing(int sort, int person) {
            if (things < MOST_THINGS) {
                put(thingSorts, things, sort);
                put(owners, things, person);
                things++;
            }
        }

        void addWant(int person, int sort, int from, int till, int weight) {
            if (wants < MOST_WANTS) {
                put(wanters, wants, person);
                put(wantSorts, wants, sort);
                put(froms, wants, from);
                put(tills, wants, till);
                put(weights, wants, weight);
                orderByFrom(wants, from);
                wants++;
            }
        }

        private void orderByFrom(int want, int from) {
            int i = want;
            while (i > 0 && fromOf(at(byFrom, i - 1)) > from) {
                put(byFrom, i, at(byFrom, i - 1));
                i--;
            }
            put(byFrom, i, want);
        }

        void tellHands(int most) {
            hands = most;
        }

        void tellRoad(int most) {
            road = most;
        }

        void tellHeir(int person, int heir) {
            put(heirs, person, heir);
        }

        int people() {
            return people;
        }

        int sorts() {
            return sorts;
        }

        int things() {
            return things;
        }

        int wants() {
            return wants;
        }

        boolean handsTold() {
            return hands != NONE;
        }

        boolean roadTold() {
            return road != NONE;
        }

        int hands() {
            return hands == NONE ? MOST_HANDS : hands;
        }

        int road() {
            return road == NONE ? MOST_ROAD : road;
        }

        boolean isPerson(int person) {
            return person >= 0 && person < people;
        }

        boolean isSort(int sort) {
            return sort >= 0 && sort < sorts;
        }

        boolean isThing(int thing) {
            return thing >= 0 && thing < things;
        }

        boolean isWant(int want) {
            return want >= 0 && want < wants;
        }

        int personNamed(long name) {
            for (int person = 0; person < people; person++) {
                if (at(personNames, person) == name) {
                    return person;
                }
            }
            return NONE;
        }

        int sortNamed(long name) {
            for (int sort = 0; sort < sorts; sort++) {
                if (at(sortNames, sort) == name) {
                    return sort;
                }
            }
            return NONE;
        }

        int placeOf(int person) {
            return at(places, person);
        }

        int heirOf(int person) {
            return at(heirs, person);
        }

        int worthOf(int sort) {
            return at(worths, sort);
        }

        int sortOfThing(int thing) {
            return at(thingSorts, thing);
        }

        int ownerOf(int thing) {
            return at(owners, thing);
        }

        int homeOf(int thing) {
            return at(places, at(owners, thing));
        }

        int whoWants(int want) {
            return at(wanters, want);
        }

        int placeOfWant(int want) {
            return at(places, at(wanters, want));
        }

        int sortOfWant(int want) {
            return at(wantSorts, want);
        }

        int fromOf(int want) {
            return at(froms, want);
        }

        int tillOf(int want) {
            return at(tills, want);
        }

        int weightOf(int want) {
            return at(weights, want);
        }

        /** The i-th want by first days, of like ones by numbers. */
        int byFirstDay(int i) {
            return at(byFrom, i);
        }

        int apart(int person, int other) {
            return Math.abs(placeOf(person) - placeOf(other));
        }

        /** What of a want's weight falls on so many of its days. */
        int partOf(int want, int days) {
            int lasts = tillOf(want) - fromOf(want);
            return lasts <= 0 ? 0 : weightOf(want) * Math.min(days, lasts) / lasts;
        }

        int weightOfAll(int bits) {
            int sum = 0;
            for (int want = 0; want < wants; want++) {
                sum += hasBit(bits, want) ? weightOf(want) : 0;
            }
            return sum;
        }

        int wantsOfSort(int sort) {
            int bits = 0;
            for (int want = 0; want < wants; want++) {
                bits |= sortOfWant(want) == sort ? 1 << want : 0;
            }
            return bits;
        }

        int wantsOfPerson(int person) {
            int bits = 0;
            for (int want = 0; want < wants; want++) {
                bits |= whoWants(want) == person ? 1 << want : 0;
            }
            return bits;
        }

        int wantsOn(int sort, int day) {
            int sum = 0;
            for (int want = 0; want < wants; want++) {
                sum += sortOfWant(want) == sort && fromOf(want) <= day && day < tillOf(want) ? 1 : 0;
            }
            return sum;
        }

        int thingsLeft(int sort, int lost) {
            int sum = 0;
            for (int thing = 0; thing < things; thing++) {
                sum += sortOfThing(thing) == sort && !hasBit(lost, thing) ? 1 : 0;
            }
            return sum;
        }
    }

    /** Day, chains, what was carried and lost, and the law: all that an image keeps. */
    private static final class Holdings {
        // Nobody is in a chain twice.
        private static final int CHAIN_ROOM = MOST_PEOPLE;

        private final int[] depths = new int[MOST_THINGS];
        private final int[] holders = new int[MOST_THINGS * CHAIN_ROOM];
        private final int[] dues = new int[MOST_THINGS * CHAIN_ROOM];
        private int day = 0;
        private int carried = 0;
        private int lost = 0;
        private int lawful = 0;
        private boolean kept = false;

        void begin(Land land) {
            day = 0;
            carried = 0;
            lost = 0;
            lawful = 0;
            for (int thing = 0; thing < land.things(); thing++) {
                put(depths, thing, 0);
                push(thing, land.ownerOf(thing), NONE);
            }
        }

        void copyOf(Holdings from) {
            day = from.day;
            carried = from.carried;
            lost = from.lost;
            lawful = from.lawful;
            System.arraycopy(from.depths, 0, depths, 0, depths.length);
            System.arraycopy(from.holders, 0, holders, 0, holders.length);
            System.arraycopy(from.dues, 0, dues, 0, dues.length);
        }

        boolean isKept() {
            return kept;
        }

        void setKept(boolean keep) {
            kept = keep;
        }

        int today() {
            return day;
        }

        int carriedSoFar() {
            return carried;
        }

        int lostBits() {
            return lost;
        }

        int lawNow() {
            return lawful;
        }

        void setLaw(int law) {
            lawful = law;
        }

        boolean isLost(int thing) {
            return hasBit(lost, thing);
        }

        void setLost(int thing) {
            lost |= 1 << thing;
        }

        int depthOf(int thing) {
            return at(depths, thing);
        }

        int whoAt(int thing, int k) {
            return at(holders, thing * CHAIN_ROOM + k);
        }

        int tillAt(int thing, int k) {
            return at(dues, thing * CHAIN_ROOM + k);
        }

        int holderOf(int thing) {
            return whoAt(thing, depthOf(thing) - 1);
        }

        int heldBy(Land land, int person) {
            int sum = 0;
            for (int thing = 0; thing < land.things(); thing++) {
                sum += !isLost(thing) && holderOf(thing) == person ? 1 : 0;
            }
            return sum;
        }

        boolean mayLend(int thing, int person, int due, int hands) {
            int depth = depthOf(thing);
            if (isLost(thing) || depth > hands || due <= day || due > LAST_DAY) {
                return false;
            }
            if (depth > 1 && due > tillAt(thing, depth - 1)) {
                return false;
            }
            return !isInChain(thing, person);
        }

        private boolean isInChain(int thing, int person) {
            for (int k = 0; k < depthOf(thing); k++) {
                if (whoAt(thing, k) == person) {
                    return true;
                }
            }
            return false;
        }

        int hand(Land land, int thing, int person, int due) {
            int far = land.apart(holderOf(thing), person);
            push(thing, person, due);
            carried += far;
            return far;
        }

        private void push(int thing, int person, int due) {
            int depth = depthOf(thing);
            if (depth < CHAIN_ROOM) {
                put(holders, thing * CHAIN_ROOM + depth, person);
                put(dues, thing * CHAIN_ROOM + depth, due);
                put(depths, thing, depth + 1);
            }
        }

        int giveBack(Land land, int thing) {
            int from = holderOf(thing);
            put(depths, thing, depthOf(thing) - 1);
            int far = land.apart(from, holderOf(thing));
            carried += far;
            return far;
        }

        int passDay(Land land) {
            day++;
            int far = 0;
            for (int thing = 0; thing < land.things(); thing++) {
                far += isLost(thing) ? 0 : endLoans(land, thing);
            }
            carried += far;
            return far;
        }

        private int endLoans(Land land, int thing) {
            int from = holderOf(thing);
            for (int k = depthOf(thing) - 1; k > 0 && tillAt(thing, k) <= day; k--) {
                put(depths, thing, k);
            }
            return land.apart(from, holderOf(thing));
        }

        int debt(Land land, int person, int other) {
            int sum = 0;
            for (int thing = 0; thing < land.things(); thing++) {
                if (isLost(thing) && owesFor(thing, person, other)) {
                    sum += land.worthOf(land.sortOfThing(thing));
                }
            }
            return sum;
        }

        private boolean owesFor(int thing, int person, int other) {
            int depth = depthOf(thing);
            if (lawful == 1) {
                return depth > 1 && holderOf(thing) == person && whoAt(thing, 0) == other;
            }
            for (int k = 1; k < depth; k++) {
                if (whoAt(thing, k) == person && whoAt(thing, k - 1) == other) {
                    return true;
                }
            }
            return false;
        }
    }

    /**
     * Chooses of some wants those that are met. A want counts its weight above what its being one more and its bit
     * take away, so that one greatest sum stands for the most, then the fewest, then the least bits.
     */
    private static final class Choice {
        private static final int WEIGHT_SHIFT = 16;
        private static final int NUMBER_SHIFT = 12;

        private final int[] wants = new int[MOST_WANTS];
        private final int[] froms = new int[MOST_WANTS];
        private final int[] tills = new int[MOST_WANTS];
        private final int[] values = new int[MOST_WANTS];
        // What the wants from one on could bring at most.
        private final int[] rests = new int[MOST_WANTS + 1];
        // Which wants ahead are still there on a want's first day, and on the day behind that.
        private final int[] onFirst = new int[MOST_WANTS];
        private final int[] onNext = new int[MOST_WANTS];
        private int size = 0;
        private int room = 0;
        private int moreOn = NONE;
        private int must = NONE;
        private int later = 0;
        private int best = NONE;
        private int bestBits = 0;

        /** For the next choice alone there is room for one more on this day. */
        void setMoreOn(int day) {
            moreOn = day;
        }

        /** In the next choice alone this want lasts so many days longer and has to be. */
        void setLonger(int want, int days) {
            must = want;
            later = days;
        }

        /** The greatest weight of wants of the pool with room for so many a day, or NONE if none can be chosen. */
        int most(Land land, int pool, int things) {
            room = things;
            load(land, pool);
            best = NONE;
            bestBits = 0;
            search(this, 0, 0, 0);
            moreOn = NONE;
            must = NONE;
            later = 0;
            return best == NONE ? NONE : land.weightOfAll(bestBits);
        }

        int chosenBits() {
            return bestBits;
        }

        private void load(Land land, int pool) {
            size = 0;
            for (int i = 0; i < land.wants(); i++) {
                int want = land.byFirstDay(i);
                if (hasBit(pool, want)) {
                    loadWant(want, land.fromOf(want), land.tillOf(want), land.weightOf(want));
                }
            }
            put(rests, size, 0);
            for (int i = size - 1; i >= 0; i--) {
                put(rests, i, at(rests, i + 1) + at(values, i));
            }
        }

        private void loadWant(int want, int from, int till, int weight) {
            int first = 0;
            int next = 0;
            for (int i = 0; i < size; i++) {
                first |= at(tills, i) > from ? 1 << at(wants, i) : 0;
                next |= at(tills, i) > from + 1 ? 1 << at(wants, i) : 0;
            }
            put(onFirst, size, first);
            put(onNext, size, next);
            put(wants, size, want);
            put(froms, size, from);
            put(tills, size, till + (want == must ? later : 0));
            put(values, size, (weight << WEIGHT_SHIFT) - (1 << NUMBER_SHIFT) - (1 << want));
            size++;
        }

        private static void search(Choice c, int i, int bits, int value) {
            if (i >= c.size || i >= MOST_WANTS) {
                if (value > c.best) {
                    c.best = value;
                    c.bestBits = bits;
                }
                return;
            }
            if (value + at(c.rests, i) <= c.best) {
                return;
            }
            int want = at(c.wants, i);
            if (c.fits(i, bits)) {
                search(c, i + 1, bits | 1 << want, value + at(c.values, i));
            }
            if (want != c.must) {
                search(c, i + 1, bits, value);
            }
        }

        /**
         * Wants come by first days, so those ahead only get fewer from this one's first day on, and one day more than
         * that is enough to see where the room for one more ends.
         */
        private boolean fits(int i, int bits) {
            int first = at(froms, i);
            if (Integer.bitCount(bits & at(onFirst, i)) >= roomOn(first)) {
                return false;
            }
            return first + 1 >= at(tills, i) || Integer.bitCount(bits & at(onNext, i)) < roomOn(first + 1);
        }

        private int roomOn(int day) {
            return day == moreOn ? room + 1 : room;
        }
    }

    /**
     * The way of one thing along the places of its wants. A way is one number: how far, above how many times home,
     * above the bits of the wants behind which it is home.
     */
    private static final class Ways {
        private static final int FAR_SHIFT = 12;
        private static final int TIMES_SHIFT = WANTS_OF_SORT;
        private static final int NEVER = 1 << 30;

        private final int[] places = new int[WANTS_OF_SORT];
        private final int[] leasts = new int[WANTS_OF_SORT + 1];

        void setPlace(int i, int place) {
            put(places, i, place);
        }

        /** The least way along the first n places, with at most so many of them without being home between. */
        int leastWay(int home, int n, int hands) {
            put(leasts, 0, 0);
            for (int end = 0; end < n; end++) {
                int last = at(places, end);
                int next = last;
                int along = 0;
                int best = NEVER;
                for (int first = end; first >= 0 && end - first < hands; first--) {
                    int place = at(places, first);
                    along += Math.abs(place - next);
                    next = place;
                    int far = Math.abs(home - place) + along + Math.abs(last - home);
                    best = Math.min(best, at(leasts, first) + (far << FAR_SHIFT));
                }
                put(leasts, end + 1, best + (1 << TIMES_SHIFT) + (1 << end));
            }
            return at(leasts, n);
        }

        static int farOf(int way) {
            return way >> FAR_SHIFT;
        }

        static boolean isHomeBehind(int way, int i) {
            return i < TIMES_SHIFT && hasBit(way, i);
        }
    }

    /**
     * Gives the things of a sort to its wants that are met. What is sought is one number: how far, above which of the
     * things the least want has, then the next one, in two bits each.
     */
    private static final class Giving {
        private static final long NEVER = 1L << 60;
        private static final int FAR_SHIFT = 2 * MOST_WANTS;
        private static final int SETS = 1 << WANTS_OF_SORT;

        private final Ways ways;
        private final int[] wants = new int[WANTS_OF_SORT];
        private final long[] bests = new long[SETS];
        private final long[] costs = new long[SETS];
        private int size = 0;

        Giving(Ways ways) {
            this.ways = ways;
        }

        /** The least number for these wants of the sort, with so many hands. */
        long leastGiven(Land land, int lost, int sort, int bits, int hands) {
            load(land, bits & land.wantsOfSort(sort));
            Arrays.fill(bests, NEVER);
            put(bests, 0, 0L);
            int index = 0;
            for (int thing = 0; thing < land.things(); thing++) {
                if (land.sortOfThing(thing) == sort && !hasBit(lost, thing)) {
                    for (int part = 0; part < 1 << size; part++) {
                        put(costs, part, costOf(land, land.homeOf(thing), part, index, hands));
                    }
                    addThing();
                    index++;
                }
            }
            return at(bests, (1 << size) - 1);
        }

        static int farOf(long number) {
            return (int) (number >> FAR_SHIFT);
        }

        /** Which of the things of its sort, those that are lost aside, a want has. */
        static int indexFor(long number, int want) {
            return (int) (number >> shiftOf(want)) & 3;
        }

        private static int shiftOf(int want) {
            return 2 * (MOST_WANTS - 1 - want);
        }

        private void load(Land land, int bits) {
            size = 0;
            for (int i = 0; i < land.wants(); i++) {
                int want = land.byFirstDay(i);
                if (hasBit(bits, want) && size < WANTS_OF_SORT) {
                    put(wants, size, want);
                    size++;
                }
            }
        }

        private long costOf(Land land, int home, int part, int index, int hands) {
            int n = 0;
            int free = 0;
            long digits = 0;
            for (int i = 0; i < size; i++) {
                if (!hasBit(part, i)) {
                    continue;
                }
                int want = at(wants, i);
                if (land.fromOf(want) < free) {
                    return NEVER;
                }
                free = land.tillOf(want);
                ways.setPlace(n, land.placeOfWant(want));
                digits += (long) index << shiftOf(want);
                n++;
            }
            return ((long) Ways.farOf(ways.leastWay(home, n, hands)) << FAR_SHIFT) + digits;
        }

        /** Goes from greater sets to lesser ones, so that what a part leaves is still without this thing. */
        private void addThing() {
            for (int set = (1 << size) - 1; set > 0; set--) {
                long best = at(bests, set);
                for (int part = set; part > 0; part = (part - 1) & set) {
                    best = Math.min(best, at(bests, set & ~part) + at(costs, part));
                }
                put(bests, set, Math.min(best, NEVER));
            }
        }
    }

    /** The moves of all given things, in the order in which they were added. */
    private static final class Trips {
        private static final int ROOM = 2 * MOST_WANTS;

        private final int[] sorts = new int[ROOM];
        private final int[] days = new int[ROOM];
        private final int[] starts = new int[ROOM];
        private final int[] goals = new int[ROOM];
        private final int[] stretches = new int[MOST_PLACE + 1];
        private final int[] fixedOn = new int[LAST_DAY + 1];
        private final int[] freeFrom = new int[LAST_DAY + 1];
        private int size = 0;

        void clear() {
            size = 0;
            Arrays.fill(fixedOn, 0);
            Arrays.fill(freeFrom, 0);
        }

        /** A move that may be later is one home behind the last want of a thing. */
        void add(int sort, int day, int start, int goal, boolean mayBeLater) {
            if (start == goal || size >= ROOM) {
                return;
            }
            put(sorts, size, sort);
            put(days, size, day);
            put(starts, size, start);
            put(goals, size, goal);
            int[] counts = mayBeLater ? freeFrom : fixedOn;
            put(counts, day, at(counts, day) + 1);
            size++;
        }

        private boolean isOf(int i, int sort, int day) {
            return at(sorts, i) == sort && at(days, i) == day;
        }

        int howMany(int sort, int day) {
            int sum = 0;
            for (int i = 0; i < size; i++) {
                sum += isOf(i, sort, day) ? 1 : 0;
            }
            return sum;
        }

        int howFar(int sort, int day) {
            int sum = 0;
            for (int i = 0; i < size; i++) {
                sum += isOf(i, sort, day) ? Math.abs(at(starts, i) - at(goals, i)) : 0;
            }
            return sum;
        }

        /** Over each stretch of the road must go as many as start more than end on one side of it, and no more need. */
        int exchanged(int sort, int day) {
            Arrays.fill(stretches, 0);
            for (int i = 0; i < size; i++) {
                if (isOf(i, sort, day)) {
                    put(stretches, at(starts, i), at(stretches, at(starts, i)) + 1);
                    put(stretches, at(goals, i), at(stretches, at(goals, i)) - 1);
                }
            }
            int over = 0;
            int sum = 0;
            for (int place = 0; place <= MOST_PLACE; place++) {
                over += at(stretches, place);
                sum += Math.abs(over);
            }
            return sum;
        }

        /** As many as can go each day: each one that still waits behind a day is one day later. */
        int daysLater(int road) {
            int waiting = 0;
            int sum = 0;
            for (int day = 0; day <= LAST_DAY; day++) {
                int room = road - at(fixedOn, day);
                if (room < 0) {
                    return NONE;
                }
                waiting += at(freeFrom, day);
                waiting -= Math.min(room, waiting);
                sum += waiting;
            }
            return waiting > 0 ? NONE : sum;
        }
    }

    /** Which wants are met, which things are given for them, and the moves of these. */
    private static final class Plan {
        private final Choice choice;
        private final Ways ways = new Ways();
        private final Giving giving = new Giving(ways);
        private final Trips trips = new Trips();
        private final int[] things = new int[MOST_WANTS];
        private final int[] line = new int[MOST_WANTS];
        private boolean made = false;
        private int lost = 0;
        private int metBits = 0;

        Plan(Choice choice) {
            this.choice = choice;
        }

        void forget() {
            made = false;
        }

        /** The plan hangs on the land and on what is lost alone, so it is made anew only if these are others. */
        void make(Land land, int lostNow) {
            if (made && lost == lostNow) {
                return;
            }
            made = true;
            lost = lostNow;
            metBits = 0;
            Arrays.fill(things, NONE);
            for (int sort = 0; sort < land.sorts(); sort++) {
                makeSort(land, sort);
            }
            trips.clear();
            for (int thing = 0; thing < land.things(); thing++) {
                addTrips(land, thing);
            }
        }

        private void makeSort(Land land, int sort) {
            choice.most(land, land.wantsOfSort(sort), land.thingsLeft(sort, lost));
            int bits = choice.chosenBits();
            metBits |= bits;
            long number = giving.leastGiven(land, lost, sort, bits, land.hands());
            for (int want = 0; want < land.wants(); want++) {
                if (hasBit(bits, want)) {
                    put(things, want, thingAt(land, sort, Giving.indexFor(number, want)));
                }
            }
        }

        private int thingAt(Land land, int sort, int index) {
            int left = index;
            for (int thing = 0; thing < land.things(); thing++) {
                if (land.sortOfThing(thing) == sort && !hasBit(lost, thing)) {
                    if (left == 0) {
                        return thing;
                    }
                    left--;
                }
            }
            return NONE;
        }

        private void addTrips(Land land, int thing) {
            int n = lineUp(land, thing);
            for (int i = 0; i < n; i++) {
                ways.setPlace(i, land.placeOfWant(lined(i)));
            }
            int home = land.homeOf(thing);
            int way = ways.leastWay(home, n, land.hands());
            int place = home;
            for (int i = 0; i < n; i++) {
                int want = lined(i);
                int sort = land.sortOfWant(want);
                trips.add(sort, land.fromOf(want), place, land.placeOfWant(want), false);
                place = land.placeOfWant(want);
                if (Ways.isHomeBehind(way, i)) {
                    trips.add(sort, land.tillOf(want), place, home, i == n - 1);
                    place = home;
                }
            }
        }

        /** Lines up the wants for which a thing is given, by first days: how many. */
        int lineUp(Land land, int thing) {
            int n = 0;
            for (int i = 0; i < land.wants(); i++) {
                int want = land.byFirstDay(i);
                if (thingFor(want) == thing) {
                    put(line, n, want);
                    n++;
                }
            }
            return n;
        }

        int lined(int i) {
            return at(line, i);
        }

        int metBits() {
            return metBits;
        }

        int thingFor(int want) {
            return at(things, want);
        }

        Trips allTrips() {
            return trips;
        }

        int waysOf(Land land, int sort, int hands) {
            return Giving.farOf(giving.leastGiven(land, lost, sort, metBits, hands));
        }

        int metInYears(Land land, int seed, int n, int q) {
            long x = seed;
            int sum = 0;
            for (int year = 0; year < n; year++) {
                for (int thing = 0; thing < land.things(); thing++) {
                    int wants = lineUp(land, thing);
                    boolean gone = false;
                    for (int i = 0; i < wants && !gone; i++) {
                        x = (x * 1103515245L + 12345L) & 2147483647L;
                        gone = x / 256 % LOTS < q;
                        sum += land.weightOf(lined(i));
                    }
                }
            }
            return sum;
        }
    }

    /** What comes of it when a person has all it was given too long. */
    private static final class Lateness {
        private int hurt = 0;
        private int weight = 0;

        void reckon(Land land, Plan plan, int person, int days) {
            hurt = 0;
            weight = 0;
            for (int thing = 0; thing < land.things(); thing++) {
                int n = plan.lineUp(land, thing);
                int free = 0;
                for (int i = 0; i < n; i++) {
                    free = freeBehind(land, plan.lined(i), free, land.whoWants(plan.lined(i)) == person ? days : 0);
                }
            }
        }

        /** The day from which on the next one can have a thing that is free for this want from a day on. */
        private int freeBehind(Land land, int want, int free, int days) {
            if (free > land.fromOf(want)) {
                hurt |= 1 << want;
                weight += land.partOf(want, free - land.fromOf(want));
            }
            return free >= land.tillOf(want) ? free : land.tillOf(want) + days;
        }

        int hurtBits() {
            return hurt;
        }

        int lostWeight() {
            return weight;
        }

        int mostBorne(Land land, Plan plan, int person) {
            int least = LAST_DAY;
            for (int thing = 0; thing < land.things(); thing++) {
                int n = plan.lineUp(land, thing);
                for (int i = 0; i + 1 < n; i++) {
                    if (land.whoWants(plan.lined(i)) == person) {
                        least = Math.min(least, land.fromOf(plan.lined(i + 1)) - land.tillOf(plan.lined(i)));
                    }
                }
            }
            return least;
        }
    }

    /** The old book of one thing, from which it is found whose the thing was. */
    private static final class Book {
        private final int[] givers = new int[MOST_ENTRIES];
        private final int[] takers = new int[MOST_ENTRIES];
        private final int[] row = new int[MOST_PEOPLE];
        private int size = 0;
        private boolean searched = false;
        private int first = 0;
        private int trueBits = 0;
        private int rivals = 0;

        void clear() {
            size = 0;
            searched = false;
        }

        int entries() {
            return size;
        }

        void write(int from, int to) {
            if (size < MOST_ENTRIES) {
                put(givers, size, from);
                put(takers, size, to);
                size++;
                searched = false;
            }
        }

        void strike() {
            if (size > 0) {
                size--;
                searched = false;
            }
        }

        void seek(int people) {
            if (searched) {
                return;
            }
            searched = true;
            first = 0;
            trueBits = 0;
            rivals = 0;
            int most = NONE;
            for (int person = 0; person < people; person++) {
                int bits = mostTrue(person);
                int many = Integer.bitCount(bits);
                if (many > most) {
                    most = many;
                    first = person;
                    trueBits = bits;
                    rivals = 0;
                }
                if (many == most) {
                    rivals |= 1 << person;
                }
            }
        }

        private int mostTrue(int person) {
            int best = 0;
            for (int bits = 1; bits < 1 << size; bits++) {
                if (Integer.bitCount(bits) > Integer.bitCount(best) && areTrue(bits, person)) {
                    best = bits;
                }
            }
            return best;
        }

        private boolean areTrue(int bits, int person) {
            put(row, 0, person);
            int n = 1;
            for (int i = 0; i < size; i++) {
                if (!hasBit(bits, i)) {
                    continue;
                }
                int giver = placeInRow(at(givers, i), n);
                if (giver == NONE || placeInRow(at(takers, i), giver + 1) != NONE) {
                    return false;
                }
                put(row, giver + 1, at(takers, i));
                n = giver + 2;
            }
            return true;
        }

        private int placeInRow(int person, int n) {
            for (int k = 0; k < n; k++) {
                if (at(row, k) == person) {
                    return k;
                }
            }
            return NONE;
        }

        int first() {
            return first;
        }

        int trueBits() {
            return trueBits;
        }

        int rivalBits() {
            return rivals;
        }
    }
}
