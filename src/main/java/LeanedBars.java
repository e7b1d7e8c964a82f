import java.util.Arrays;

/**
 * Railings that rust by rain, by metal and by whoever held on to a bar: told by a text, asked who
 * can have held what. The promises are those of DOC.md; words in capitals are its terms.
 */
public final class LeanedBars {
    public static final int BAD = -1, STATE = -2, FULL = -3, NONE = -9;
    public static final int NO = -1000000;

    private static final int MOST_BYTES = 300;
    private static final int MOST_BARS = 6;
    private static final int MOST_PEOPLE = 3;
    private static final int MOST_PAINTS = 8;
    private static final int MOST_HOLDS = 12;
    private static final int MOST_METAL = 3;
    private static final int MOST_GRIP = 9;
    private static final int MOST_RAIN = 3;
    private static final int MOST_LASTING = 5;
    private static final int MOST_SEEN = 999;
    private static final int MOST_DIGITS = 2;
    private static final int YEARS = 10;
    private static final int LAST_YEAR = YEARS - 1;
    private static final int IMAGES = 2;
    private static final int HELD_NONE = -4;
    private static final int NOT_SURE = -5;
    private static final int FIRST_FAULT = -10;

    private final Reader reader;
    private final Text text;
    private final Railings railings;
    private final Now now;
    private final Now[] images;
    private final boolean[] kept;
    private final Ways ways;
    private final Exchanges exchanges;
    private long traced;

    public LeanedBars() {
        reader = new Reader();
        text = reader.text;
        railings = new Railings();
        now = new Now();
        images = new Now[IMAGES];
        for (int i = 0; i < IMAGES; i++) {
            images[i] = new Now();
        }
        kept = new boolean[IMAGES];
        ways = new Ways();
        exchanges = new Exchanges();
        traced = 0;
    }

    // ---- the square

    public int type(long v, int n) {
        if (!within(n, 1, 8)) {
            return BAD;
        }
        if (text.length + n > MOST_BYTES) {
            return FULL;
        }
        text.append(v, n);
        return text.length;
    }

    public int clear() {
        int had = text.length;
        text.length = 0;
        return had;
    }

    public int square() {
        int items = reader.read();
        if (items < 0) {
            return items;
        }
        railings.become(reader.told);
        text.length = 0;
        now.forget();
        for (int i = 0; i < IMAGES; i++) {
            kept[i] = false;
        }
        return items;
    }

    public int bar(int b) {
        return railings.hasBar(b) ? railings.metals[b] : BAD;
    }

    public int person(int p) {
        return railings.hasPerson(p) ? railings.grips[p] : BAD;
    }

    public int rain(int y) {
        return isYear(y) ? railings.rains[y] : BAD;
    }

    public int paint(int b, int y) {
        if (!railings.hasBar(b) || !isYear(y)) {
            return BAD;
        }
        if (railings.isWet(b, y)) {
            return 2;
        }
        return railings.isCovered(b, y) ? 1 : 0;
    }

    // ---- who holds

    public int holds(int p, int b, int from, int n) {
        if (!railings.hasPerson(p) || !railings.hasBar(b)) {
            return BAD;
        }
        if (!isYear(from) || !within(n, 1, YEARS - from)) {
            return BAD;
        }
        if (now.size >= MOST_HOLDS) {
            return FULL;
        }
        now.add(p, b, from, n);
        return now.size;
    }

    public int undo() {
        if (now.size <= 0) {
            return STATE;
        }
        now.size--;
        return now.size;
    }

    public int held(int i, int what) {
        if (!within(i, 0, now.size - 1)) {
            return BAD;
        }
        switch (what) {
            case 0: return now.people[i];
            case 1: return now.bars[i];
            case 2: return now.firsts[i];
            case 3: return now.lengths[i];
            default: return BAD;
        }
    }

    public int rust(int b, int y) {
        if (!railings.hasBar(b) || !isYear(y)) {
            return BAD;
        }
        return rustByHolds(b, y);
    }

    // ---- what was seen

    public int saw(int b, int rust) {
        if (!railings.hasBar(b) || !within(rust, 0, MOST_SEEN)) {
            return BAD;
        }
        int before = now.sights[b];
        now.sights[b] = rust;
        return before;
    }

    public int hide(int b) {
        if (!railings.hasBar(b)) {
            return BAD;
        }
        int before = now.sights[b];
        if (before == NONE) {
            return STATE;
        }
        now.sights[b] = NONE;
        return before;
    }

    public int seen(int b) {
        return railings.hasBar(b) ? now.sights[b] : BAD;
    }

    // ---- who can have held what

    public int fits() {
        ways.learn(railings, now);
        return ways.all();
    }

    public int sure(int p) {
        if (!railings.hasPerson(p)) {
            return BAD;
        }
        ways.learn(railings, now);
        int all = ways.all();
        if (all == 0) {
            return NONE;
        }
        if (ways.holdingNone(p) == all) {
            return HELD_NONE;
        }
        for (int b = 0; b < railings.bars; b++) {
            if (ways.holding(p, b) == all) {
                return b;
            }
        }
        return NOT_SURE;
    }

    public int odds(int p, int b, int what) {
        if (!railings.hasPerson(p) || !within(what, 0, 1)) {
            return BAD;
        }
        if (b != HELD_NONE && !railings.hasBar(b)) {
            return BAD;
        }
        ways.learn(railings, now);
        int upper = b == HELD_NONE ? ways.holdingNone(p) : ways.holding(p, b);
        int lower = ways.all();
        int divisor = commonDivisor(upper, lower);
        if (divisor == 0) {
            return what;
        }
        return (what == 0 ? upper : lower) / divisor;
    }

    public int claim(int p, int b, int w) {
        if (!isClaim(p, b, w)) {
            return BAD;
        }
        ways.learn(railings, now);
        return ways.canHaveHeld(p, b, w) ? 1 : 0;
    }

    public int saves(int p, int b, int w) {
        if (!isClaim(p, b, w)) {
            return BAD;
        }
        ways.learn(railings, now);
        for (int away = 0; away < YEARS; away++) {
            if (w - away >= 1 && ways.canHaveHeld(p, b, w - away)) {
                return w - away;
            }
            if (w + away <= YEARS && ways.canHaveHeld(p, b, w + away)) {
                return w + away;
            }
        }
        return NONE;
    }

    public int scrape(int what) {
        if (!within(what, 0, 1)) {
            return BAD;
        }
        ways.learn(railings, now);
        if (ways.all() == 0) {
            return NONE;
        }
        int which = NONE;
        int fewest = NONE;
        for (int b = 0; b < railings.bars; b++) {
            if (now.sights[b] == NONE) {
                int left = ways.leftAtWorst(b);
                if (which == NONE || left < fewest) {
                    which = b;
                    fewest = left;
                }
            }
        }
        return what == 0 ? which : fewest;
    }

    public int swaps() {
        exchanges.size = 0;
        for (int b = 0; b < railings.bars; b++) {
            if (now.sights[b] != NONE) {
                exchanges.add(rustByHolds(b, LAST_YEAR), now.sights[b]);
            }
        }
        return exchanges.fewest();
    }

    // ---- kinds, images

    public int rate(int kind, int b) {
        if (!railings.hasBar(b)) {
            return NO;
        }
        switch (kind) {
            case 0: return rateOfBar(b);
            case 1: return rateOfRail(b);
            case 2: return rateOfSpike(b);
            case 3: return rateOfGate(b);
            case 4: return rateOfFinial(b);
            case 5: return rateOfNewOne(b);
            default: return NO;
        }
    }

    public int keep(int image) {
        if (!within(image, 0, IMAGES - 1)) {
            return BAD;
        }
        images[image].become(now);
        kept[image] = true;
        return now.size;
    }

    public int back(int image) {
        if (!within(image, 0, IMAGES - 1)) {
            return BAD;
        }
        if (!kept[image]) {
            return STATE;
        }
        now.become(images[image]);
        return now.size;
    }

    public int count(int what) {
        switch (what) {
            case 0: return railings.bars;
            case 1: return railings.people;
            case 2: return railings.paints;
            case 3: return now.size;
            case 4: return now.sightsTold();
            case 5: return text.length;
            default: return BAD;
        }
    }

    public long trace() {
        return traced;
    }

    private static boolean within(int x, int least, int most) {
        return x >= least && x <= most;
    }

    private static boolean isYear(int y) {
        return within(y, 0, LAST_YEAR);
    }

    private boolean isClaim(int p, int b, int w) {
        return railings.hasPerson(p) && railings.hasBar(b) && within(w, 1, YEARS);
    }

    private int rustByHolds(int b, int y) {
        int sum = railings.weather(b, y);
        for (int i = 0; i < now.size; i++) {
            if (now.bars[i] == b) {
                int last = Math.min(y, now.firsts[i] + now.lengths[i] - 1);
                sum += railings.grips[now.people[i]] * railings.dryYears(b, now.firsts[i], last);
            }
        }
        return sum;
    }

    /** 0 only of 0 and 0: where there are no WAYS. */
    private static int commonDivisor(int upper, int lower) {
        int a = lower;
        int rest = upper;
        for (int step = 0; step < 64 && rest != 0; step++) {
            int next = a % rest;
            a = rest;
            rest = next;
        }
        return a;
    }

    private int rateOfBar(int b) {
        traced += 1;
        return railings.metals[b];
    }

    private int rateOfRail(int b) {
        traced += 10;
        return rateOfBar(b) + railings.coveredYears(b);
    }

    private int rateOfSpike(int b) {
        traced += 100;
        return rateOfBar(b) - now.holdsOf(b);
    }

    private int rateOfGate(int b) {
        traced += 1000;
        return 2 * rateOfRail(b);
    }

    private int rateOfFinial(int b) {
        traced += 10000;
        return rateOfSpike(b) + b;
    }

    private int rateOfNewOne(int b) {
        traced += 100000;
        return rateOfBar(b) + rustByHolds(b, LAST_YEAR);
    }

    /** THE TEXT. */
    private static final class Text {
        final byte[] bytes = new byte[MOST_BYTES];
        int length = 0;

        void append(long v, int n) {
            for (int i = n - 1; i >= 0 && length < MOST_BYTES; i--) {
                bytes[length] = (byte) (v >>> (8 * i));
                length++;
            }
        }

        boolean isSign(int place, char sign) {
            return within(place, 0, length - 1) && bytes[place] == sign;
        }

        boolean isWord(int from, int behind, String word) {
            if (behind - from != word.length()) {
                return false;
            }
            for (int i = 0; i < word.length(); i++) {
                if (!isSign(from + i, word.charAt(i))) {
                    return false;
                }
            }
            return true;
        }

        /** The first place, from one on, that has no sign of a row of signs. */
        int behindRow(int from, char least, char most) {
            int place = from;
            while (place < length && within(bytes[place], least, most)) {
                place++;
            }
            return place;
        }

        /** What a row of digits is; or -1, if it can be no NUMBER anywhere. */
        int numberIn(int from, int behind) {
            if (behind - from > MOST_DIGITS) {
                return -1;
            }
            int number = 0;
            for (int place = from; place < behind && place < length; place++) {
                boolean zeroAhead = place > from && number == 0;
                if (zeroAhead) {
                    return -1;
                }
                number = 10 * number + bytes[place] - '0';
            }
            return number;
        }
    }

    /**
     * Reads THE TEXT token by token. Every FAULT is the place of the token that could not stand
     * (the text's length, where it ends), so a step that fails just stays at that token.
     */
    private static final class Reader {
        private static final int END = 0;
        private static final int WORD = 1;
        private static final int NUMBER = 2;
        private static final int STOP = 3;
        private static final int OTHER = 4;

        final Text text = new Text();
        final Railings told = new Railings();
        private int kind = END;
        private int at = 0;
        private int behind = 0;
        private int number = 0;

        /** How many ITEMS, all of them told now; or -10 less FAULT. */
        int read() {
            told.empty();
            behind = 0;
            next();
            int items = 0;
            for (int i = 0; i < MOST_BYTES && kind != END; i++) {
                if (!readItem()) {
                    return FIRST_FAULT - at;
                }
                items++;
            }
            return items;
        }

        private boolean readItem() {
            if (kind != WORD) {
                return false;
            }
            if (text.isWord(at, behind, "bar")) {
                return readBar();
            }
            if (text.isWord(at, behind, "person")) {
                return readPerson();
            }
            if (text.isWord(at, behind, "rain")) {
                return readRain();
            }
            return text.isWord(at, behind, "paint") && readPaint();
        }

        private boolean readBar() {
            if (told.bars >= MOST_BARS) {
                return false;
            }
            next();
            int metal = take(1, MOST_METAL);
            if (metal < 0 || !takeStop()) {
                return false;
            }
            told.addBar(metal);
            return true;
        }

        private boolean readPerson() {
            if (told.people >= MOST_PEOPLE) {
                return false;
            }
            next();
            int grip = take(1, MOST_GRIP);
            if (grip < 0 || !takeStop()) {
                return false;
            }
            told.addPerson(grip);
            return true;
        }

        private boolean readRain() {
            next();
            int year = take(0, LAST_YEAR);
            if (year < 0) {
                return false;
            }
            int much = take(0, MOST_RAIN);
            if (much < 0 || !takeStop()) {
                return false;
            }
            told.rains[year] = much;
            return true;
        }

        private boolean readPaint() {
            if (told.paints >= MOST_PAINTS) {
                return false;
            }
            next();
            int bar = take(0, told.bars - 1);
            if (bar < 0) {
                return false;
            }
            int year = take(0, LAST_YEAR);
            if (year < 0) {
                return false;
            }
            int lasting = take(1, MOST_LASTING);
            if (lasting < 0 || !takeStop()) {
                return false;
            }
            told.addPaint(bar, year, lasting);
            return true;
        }

        /** The NUMBER that stands here, and on to the next token; or -1, and stays. */
        private int take(int least, int most) {
            if (kind != NUMBER || !within(number, least, most)) {
                return -1;
            }
            int taken = number;
            next();
            return taken;
        }

        private boolean takeStop() {
            if (kind != STOP) {
                return false;
            }
            next();
            return true;
        }

        private void next() {
            at = text.behindRow(behind, ' ', ' ');
            if (at >= text.length) {
                kind = END;
                return;
            }
            behind = text.behindRow(at, 'a', 'z');
            if (behind > at) {
                kind = WORD;
                return;
            }
            behind = text.behindRow(at, '0', '9');
            if (behind > at) {
                number = text.numberIn(at, behind);
                kind = number < 0 ? OTHER : NUMBER;
                return;
            }
            behind = at + 1;
            kind = text.isSign(at, ';') ? STOP : OTHER;
        }
    }

    /** What the text told: BARS, PEOPLE, RAIN, PAINT. */
    private static final class Railings {
        int bars = 0;
        int people = 0;
        int paints = 0;
        final int[] metals = new int[MOST_BARS];
        final int[] grips = new int[MOST_PEOPLE];
        final int[] rains = new int[YEARS];
        final int[] paintedBars = new int[MOST_PAINTS];
        final int[] paintedYears = new int[MOST_PAINTS];
        final int[] lastings = new int[MOST_PAINTS];

        Railings() {
            Arrays.fill(rains, 1);
        }

        void empty() {
            bars = 0;
            people = 0;
            paints = 0;
            Arrays.fill(rains, 1);
        }

        void become(Railings other) {
            bars = other.bars;
            people = other.people;
            paints = other.paints;
            System.arraycopy(other.metals, 0, metals, 0, MOST_BARS);
            System.arraycopy(other.grips, 0, grips, 0, MOST_PEOPLE);
            System.arraycopy(other.rains, 0, rains, 0, YEARS);
            System.arraycopy(other.paintedBars, 0, paintedBars, 0, MOST_PAINTS);
            System.arraycopy(other.paintedYears, 0, paintedYears, 0, MOST_PAINTS);
            System.arraycopy(other.lastings, 0, lastings, 0, MOST_PAINTS);
        }

        boolean hasBar(int b) {
            return within(b, 0, bars - 1);
        }

        boolean hasPerson(int p) {
            return within(p, 0, people - 1);
        }

        void addBar(int metal) {
            metals[bars] = metal;
            bars++;
        }

        void addPerson(int grip) {
            grips[people] = grip;
            people++;
        }

        void addPaint(int bar, int year, int lasting) {
            paintedBars[paints] = bar;
            paintedYears[paints] = year;
            lastings[paints] = lasting;
            paints++;
        }

        boolean isWet(int b, int y) {
            for (int i = 0; i < paints; i++) {
                if (paintedBars[i] == b && paintedYears[i] == y) {
                    return true;
                }
            }
            return false;
        }

        boolean isCovered(int b, int y) {
            for (int i = 0; i < paints; i++) {
                int last = paintedYears[i] + lastings[i] - 1;
                if (paintedBars[i] == b && within(y, paintedYears[i], last)) {
                    return true;
                }
            }
            return false;
        }

        int coveredYears(int b) {
            int years = 0;
            for (int y = 0; y < YEARS; y++) {
                if (isCovered(b, y)) {
                    years++;
                }
            }
            return years;
        }

        /** RUST that comes of RAIN alone, to a YEAR. */
        int weather(int b, int last) {
            int sum = 0;
            for (int y = 0; y <= last && y < YEARS; y++) {
                if (!isCovered(b, y)) {
                    sum += rains[y] * metals[b];
                }
            }
            return sum;
        }

        /** In how many YEARS who holds the BAR leaves RUST. */
        int dryYears(int b, int first, int last) {
            int years = 0;
            for (int y = first; y <= last && y < YEARS; y++) {
                if (!isWet(b, y)) {
                    years++;
                }
            }
            return years;
        }
    }

    /** What an IMAGE keeps: HOLDS, and what was SEEN (NONE, where nothing was). */
    private static final class Now {
        int size = 0;
        final int[] people = new int[MOST_HOLDS];
        final int[] bars = new int[MOST_HOLDS];
        final int[] firsts = new int[MOST_HOLDS];
        final int[] lengths = new int[MOST_HOLDS];
        final int[] sights = new int[MOST_BARS];

        Now() {
            Arrays.fill(sights, NONE);
        }

        void forget() {
            size = 0;
            Arrays.fill(sights, NONE);
        }

        void become(Now other) {
            size = other.size;
            System.arraycopy(other.people, 0, people, 0, MOST_HOLDS);
            System.arraycopy(other.bars, 0, bars, 0, MOST_HOLDS);
            System.arraycopy(other.firsts, 0, firsts, 0, MOST_HOLDS);
            System.arraycopy(other.lengths, 0, lengths, 0, MOST_HOLDS);
            System.arraycopy(other.sights, 0, sights, 0, MOST_BARS);
        }

        void add(int p, int b, int first, int length) {
            people[size] = p;
            bars[size] = b;
            firsts[size] = first;
            lengths[size] = length;
            size++;
        }

        int holdsOf(int b) {
            int found = 0;
            for (int i = 0; i < size; i++) {
                if (bars[i] == b) {
                    found++;
                }
            }
            return found;
        }

        int sightsTold() {
            int found = 0;
            for (int b = 0; b < MOST_BARS; b++) {
                if (sights[b] != NONE) {
                    found++;
                }
            }
            return found;
        }
    }

    /**
     * Counts WAYS by sets of people (bit p is PERSON p) instead of one by one: what is SEEN of a
     * BAR speaks only of the set that held it, so the counts of the BARS multiply.
     */
    private static final class Ways {
        private static final int SETS = 1 << MOST_PEOPLE;
        private static final int MOST_LEFT = MOST_PEOPLE * MOST_GRIP * YEARS;

        private int bars = 0;
        private int people = 0;
        private final boolean[] isSeen = new boolean[MOST_BARS];
        private final int[] needs = new int[MOST_BARS];
        private final int[] grips = new int[MOST_PEOPLE];
        private final int[] dryWinters = new int[MOST_BARS * (YEARS + 1)];
        private final int[] fitting = new int[MOST_BARS * SETS];
        private final int[] gathered = new int[SETS];
        private final int[] tally = new int[MOST_LEFT + 1];

        /** Ahead of all questions. */
        void learn(Railings railings, Now now) {
            bars = railings.bars;
            people = railings.people;
            System.arraycopy(railings.grips, 0, grips, 0, MOST_PEOPLE);
            for (int b = 0; b < bars; b++) {
                isSeen[b] = now.sights[b] != NONE;
                needs[b] = now.sights[b] - railings.weather(b, LAST_YEAR);
                for (int w = 1; w <= YEARS; w++) {
                    dryWinters[b * (YEARS + 1) + w] = railings.dryYears(b, 0, w - 1);
                }
                for (int set = 0; set < 1 << people; set++) {
                    fitting[b * SETS + set] = winters(b, set, needs[b]);
                }
            }
        }

        int all() {
            gather(NONE);
            return waysBeside(0);
        }

        int holdingNone(int p) {
            gather(NONE);
            return waysBeside(1 << p);
        }

        int holding(int p, int b) {
            gather(b);
            int sum = 0;
            for (int set = 0; set < 1 << people; set++) {
                if (isIn(set, p)) {
                    sum += fitting[b * SETS + set] * waysBeside(set);
                }
            }
            return sum;
        }

        boolean canHaveHeld(int p, int b, int w) {
            gather(b);
            int need = needs[b] - leaves(p, b, w);
            for (int set = 0; set < 1 << people; set++) {
                if (isIn(set, p) && waysBeside(set) > 0 && winters(b, set ^ (1 << p), need) > 0) {
                    return true;
                }
            }
            return false;
        }

        /** Of a BAR that was not SEEN: how many WAYS the RUST that most WAYS share would leave. */
        int leftAtWorst(int b) {
            gather(b);
            Arrays.fill(tally, 0);
            for (int set = 0; set < 1 << people; set++) {
                spread(this, b, set, waysBeside(set), 0, 0);
            }
            int most = 0;
            for (int sum = 0; sum <= MOST_LEFT; sum++) {
                most = Math.max(most, tally[sum]);
            }
            return most;
        }

        /** For each set: how many ways its people can have held BARS but the one left out. */
        private void gather(int leftOut) {
            Arrays.fill(gathered, 0);
            gathered[0] = 1;
            for (int b = 0; b < bars; b++) {
                if (b != leftOut) {
                    gatherBar(b);
                }
            }
        }

        /** From the greatest set down, as a set takes of its parts what they were ahead of the BAR. */
        private void gatherBar(int b) {
            for (int set = (1 << people) - 1; set >= 0; set--) {
                int sum = 0;
                for (int part = 0; part <= set; part++) {
                    if ((part & ~set) == 0) {
                        sum += fitting[b * SETS + part] * gathered[set ^ part];
                    }
                }
                gathered[set] = sum;
            }
        }

        /** The ways of all but the set, on the BARS that were gathered or on none. */
        private int waysBeside(int set) {
            int sum = 0;
            for (int others = 0; others < 1 << people; others++) {
                if ((others & set) == 0) {
                    sum += gathered[others];
                }
            }
            return sum;
        }

        /**
         * How many rows of WINTERS of the set's people leave just the need on a BAR (all rows, if
         * it was not SEEN).
         */
        private int winters(int b, int set, int need) {
            if (isSeen[b]) {
                return wintersFrom(this, b, set, 0, need);
            }
            int rows = 1;
            for (int p = 0; p < people; p++) {
                rows *= isIn(set, p) ? YEARS : 1;
            }
            return rows;
        }

        /** Calls itself a PERSON further each time: four levels at most. */
        private static int wintersFrom(Ways ways, int b, int set, int p, int need) {
            if (need < 0) {
                return 0;
            }
            if (p >= ways.people) {
                return need == 0 ? 1 : 0;
            }
            if (!isIn(set, p)) {
                return wintersFrom(ways, b, set, p + 1, need);
            }
            int rows = 0;
            for (int w = 1; w <= YEARS; w++) {
                rows += wintersFrom(ways, b, set, p + 1, need - ways.leaves(p, b, w));
            }
            return rows;
        }

        /** Calls itself a PERSON further each time: four levels at most. */
        private static void spread(Ways ways, int b, int set, int times, int p, int sum) {
            if (p >= ways.people) {
                if (within(sum, 0, MOST_LEFT)) {
                    ways.tally[sum] += times;
                }
                return;
            }
            if (!isIn(set, p)) {
                spread(ways, b, set, times, p + 1, sum);
                return;
            }
            for (int w = 1; w <= YEARS; w++) {
                spread(ways, b, set, times, p + 1, sum + ways.leaves(p, b, w));
            }
        }

        private int leaves(int p, int b, int w) {
            return grips[p] * dryWinters[b * (YEARS + 1) + w];
        }

        private static boolean isIn(int set, int p) {
            return ((set >> p) & 1) == 1;
        }
    }

    /** The RUST of the BARS that were SEEN, and what was SEEN of them. */
    private static final class Exchanges {
        private static final int TOO_MANY = 100;

        int size = 0;
        private final int[] rusts = new int[MOST_BARS];
        private final int[] wanted = new int[MOST_BARS];

        void add(int rust, int want) {
            if (size < MOST_BARS) {
                rusts[size] = rust;
                wanted[size] = want;
                size++;
            }
        }

        int fewest() {
            int found = fewestFrom(rusts, wanted, size, 0);
            return found < TOO_MANY ? found : NONE;
        }

        /**
         * TOO_MANY or above, if it can't be. Each exchange brings the first wrong BAR what it
         * wants, of one that is wrong too: to touch a right one never saves an exchange. Calls
         * itself at least a BAR further each time: seven levels at most.
         */
        private static int fewestFrom(int[] rusts, int[] wanted, int size, int from) {
            int wrong = from;
            while (wrong < size && rusts[wrong] == wanted[wrong]) {
                wrong++;
            }
            if (wrong >= size) {
                return 0;
            }
            int found = TOO_MANY;
            for (int other = wrong + 1; other < size; other++) {
                if (rusts[other] == wanted[wrong] && rusts[other] != wanted[other]) {
                    exchange(rusts, wrong, other);
                    found = Math.min(found, 1 + fewestFrom(rusts, wanted, size, wrong + 1));
                    exchange(rusts, wrong, other);
                }
            }
            return found;
        }

        private static void exchange(int[] rusts, int one, int other) {
            int rust = rusts[one];
            rusts[one] = rusts[other];
            rusts[other] = rust;
        }
    }
}
