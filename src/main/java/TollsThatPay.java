import java.util.NoSuchElementException;

/** Houses that own bridges of a land, what their tolls bring, and the tolls that bring most. */
public final class TollsThatPay {
    public static final int NONE = -1;

    private static final int TOO_MANY_WAYS = -103;
    private static final int NO_OTHER = -2;
    private static final int WORTHS = 10;
    private static final int MOST_WEIGHT = 99;

    private final Reader reader;
    private final Row told;
    private final Goers goers;
    private final Market market;
    private final Study study;
    private final Duel duel;
    private final int[] weights;
    private Land land;
    private Land draft;
    private int leaning;

    public TollsThatPay() {
        reader = new Reader();
        told = new Row();
        land = new Land();
        draft = new Land();
        goers = new Goers(land.journeys);
        market = new Market(goers, land.roads);
        study = new Study(market, goers);
        duel = new Duel(market);
        weights = new int[WORTHS];
        for (int w = 0; w < weights.length; w++) {
            weights[w] = 1;
        }
    }

    // ---- the land

    public int sign(int v) {
        return reader.push(v);
    }

    public boolean end(int n) {
        return reader.cut(n);
    }

    public int tell() {
        draft.copy(land);
        int items = reader.read(draft);
        reader.cut(0);
        if (items < 0) {
            return items;
        }
        int excess = draft.excess();
        if (excess < 0) {
            return excess;
        }
        if (!goers.survey(draft)) {
            goers.survey(land);
            return TOO_MANY_WAYS;
        }
        Land old = land;
        land = draft;
        draft = old;
        return items;
    }

    public int toll(int road, int v) {
        int slot = land.roads.slotAt(road);
        if (slot < 0 || v < 0 || v > land.roads.cap) {
            return NONE;
        }
        int was = land.roads.tolls[slot];
        land.roads.tolls[slot] = v;
        return was;
    }

    public int lean(int v) {
        if (v < 0 || v > 1) {
            return NONE;
        }
        int was = leaning;
        leaning = v;
        return was;
    }

    // ---- ways and takes

    public int way(int journey, int worth) {
        int goer = goers.find(journey, worth);
        if (goer < 0) {
            return NONE;
        }
        openNow();
        return goers.tellRoads(goers.rankOf(goer, market.choice(goer)), told);
    }

    public int pains(int journey, int worth) {
        int goer = goers.find(journey, worth);
        if (goer < 0) {
            return NONE;
        }
        openNow();
        return market.painsOf(goer, market.choice(goer));
    }

    public int room(int journey, int worth) {
        int goer = goers.find(journey, worth);
        if (goer < 0) {
            return NONE;
        }
        openNow();
        int own = market.choice(goer);
        int next = market.leastWithout(goer, own);
        return own == 0 || next < 0 ? NO_OTHER : next - market.painsOf(goer, own);
    }

    public int take(int house) {
        if (!isHouse(house)) {
            return NONE;
        }
        openNow();
        return market.brought(land.roads.sideOf(house));
    }

    public int suffered() {
        openNow();
        return market.sufferedNow();
    }

    public int by(int road) {
        if (!land.roads.has(road)) {
            return NONE;
        }
        openNow();
        int sum = 0;
        for (int g = 0; g < goers.size; g++) {
            if (goers.passes(g, market.choice(g), road)) {
                sum += goers.manyOf(g);
            }
        }
        return sum;
    }

    public int ways(int journey) {
        return goers.waysOf(journey);
    }

    // ---- the best

    public int best(int house) {
        if (!canSeek(house)) {
            return NONE;
        }
        openNow();
        int most = market.bestOf(house);
        tellFound(house);
        return most;
    }

    public int set(int house) {
        if (!canSeek(house)) {
            return NONE;
        }
        openNow();
        int most = market.bestOf(house);
        System.arraycopy(market.found, 0, land.roads.tolls, 0, Roads.MOST_TOLLED);
        return most;
    }

    public int ties(int house) {
        if (!canSeek(house)) {
            return NONE;
        }
        market.open(land.roads, 1);
        int kind = market.bestOf(house);
        market.open(land.roads, 0);
        return kind - market.bestOf(house);
    }

    public int bound(int house) {
        if (!canSeek(house)) {
            return NONE;
        }
        openNow();
        return study.boundOf(house);
    }

    public int given(int house) {
        if (!canSeek(house)) {
            return NONE;
        }
        openNow();
        int most = study.givenOf(house);
        if (most < 0) {
            return NO_OTHER;
        }
        tellFound(house);
        return most;
    }

    public int above(int house, int v) {
        if (!canSeek(house)) {
            return NONE;
        }
        openNow();
        return study.aboveOf(house, v);
    }

    // ---- one road

    public int line(int road) {
        int slot = land.roads.slotAt(road);
        if (slot < 0) {
            return NONE;
        }
        openNow();
        int most = study.reckonLine(slot);
        told.clear();
        for (int v = 0; v <= land.roads.cap; v++) {
            told.add(study.lineAt(v));
        }
        return most;
    }

    public int bends(int road) {
        int slot = land.roads.slotAt(road);
        if (slot < 0) {
            return NONE;
        }
        openNow();
        study.reckonLine(slot);
        told.clear();
        for (int v = 1; v < land.roads.cap; v++) {
            int here = study.lineAt(v);
            if (study.lineAt(v + 1) - here != here - study.lineAt(v - 1)) {
                told.add(v);
            }
        }
        return told.size;
    }

    public int climb(int house) {
        if (!isHouse(house)) {
            return NONE;
        }
        openNow();
        int changes = study.climbOf(house);
        told.clear();
        told.add(study.climbed);
        tellTolls(study.heights, land.roads.sideOf(house));
        return changes;
    }

    public int gap(int house) {
        if (!canSeek(house)) {
            return NONE;
        }
        openNow();
        int most = market.bestOf(house);
        study.climbOf(house);
        return most - study.climbed;
    }

    // ---- times

    public int times(int house) {
        if (!canSeek(house)) {
            return NONE;
        }
        openNow();
        told.clear();
        int sum = 0;
        for (int t = 0; t < Journeys.TIMES; t++) {
            market.shareTime(t);
            int most = market.bestOf(house);
            told.add(most);
            sum += most;
        }
        return sum;
    }

    // ---- two houses

    public int answers(int n) {
        if (n < 1 || n > Duel.MOST_ANSWERS || !canSeek(0) || !canSeek(1)) {
            return NONE;
        }
        openNow();
        int many = duel.answer(n, land.roads);
        told.clear();
        told.add(duel.brought(0, duel.tolls, land.roads));
        told.add(duel.brought(1, duel.tolls, land.roads));
        tellTolls(duel.tolls, land.roads.allSlots());
        return many;
    }

    public int rests() {
        if (Roads.powerOf(land.roads.cap + 1, land.roads.tolled) > Duel.MOST_JOINT) {
            return NONE;
        }
        openNow();
        int many = duel.countRests(land.roads);
        told.clear();
        if (many > 0) {
            tellTolls(duel.tolls, land.roads.allSlots());
            told.add(duel.brought(0, duel.tolls, land.roads));
            told.add(duel.brought(1, duel.tolls, land.roads));
        }
        return many;
    }

    // ---- what a mayor can do

    public int spare(int house, int k) {
        if (!canSeek(house) || k < 0 || k > Integer.bitCount(land.roads.sideOf(house))) {
            return NONE;
        }
        openNow();
        int least = study.spareOf(house, k);
        told.clear();
        told.add(land.roads.roadsOf(study.chosen));
        told.add(study.brings);
        return least;
    }

    public int ceiling(int house) {
        if (!canSeek(house)) {
            return NONE;
        }
        openNow();
        int least = study.ceilingOf(house);
        told.clear();
        told.add(study.chosen);
        told.add(study.brings);
        return least;
    }

    public int without(int house, int road) {
        if (!canSeek(house) || !land.roads.has(road)) {
            return NONE;
        }
        openNow();
        int with = market.bestOf(house);
        draft.copy(land);
        draft.roads.shut(road);
        goers.survey(draft);
        market.open(draft.roads, leaning);
        int without = market.bestOf(house);
        goers.survey(land);
        return without - with;
    }

    public int ford(int house, int a, int b, int cost) {
        if (!canSeek(house) || !Roads.canStand(a, b, cost) || land.roads.size >= Roads.MOST) {
            return NONE;
        }
        openNow();
        int without = market.bestOf(house);
        draft.copy(land);
        draft.roads.add(NONE, a, b, cost, 0);
        int more = NONE;
        if (goers.survey(draft)) {
            market.open(draft.roads, leaning);
            more = market.bestOf(house) - without;
        }
        goers.survey(land);
        return more;
    }

    // ---- what is not known

    public int weight(int worth, int v) {
        if (worth < 0 || worth >= weights.length || v < 0 || v > MOST_WEIGHT) {
            return NONE;
        }
        int was = weights[worth];
        weights[worth] = v;
        return was;
    }

    public int mean(int house) {
        if (!canSeek(house)) {
            return NONE;
        }
        openNow();
        market.shareMean(weights);
        int most = market.bestOf(house);
        tellFound(house);
        return most;
    }

    public int safe(int house) {
        if (!canSeek(house) || !isAnyWeight()) {
            return NONE;
        }
        openNow();
        int most = study.safeOf(house, weights);
        tellFound(house);
        return most;
    }

    public int learn(int road, int v) {
        if (!land.roads.has(road) || v < 0) {
            return NONE;
        }
        openNow();
        return study.worldsWith(road, v);
    }

    // ---- parted

    public int last(int road) {
        int slot = land.roads.slotAt(road);
        int house = land.roads.houseOf(road);
        if (slot < 0 || !canSeek(house)) {
            return NONE;
        }
        openNow();
        return market.bestOf(house) - study.bestWithFree(house, 1 << slot);
    }

    public int fair(int road) {
        int slot = land.roads.slotAt(road);
        int house = land.roads.houseOf(road);
        if (slot < 0 || !canSeek(house)) {
            return NONE;
        }
        openNow();
        int upper = study.growths(house, slot);
        int lower = Study.orders(Integer.bitCount(land.roads.sideOf(house)));
        int common = Study.commonPart(upper, lower);
        if (common <= 0 || lower <= 0) {
            return NONE;
        }
        told.clear();
        told.add(upper / common);
        told.add(lower / common);
        return upper / lower;
    }

    public int count(int what) {
        switch (what) {
            case 0: return land.roads.size;
            case 1: return land.roads.tolled;
            case 2: return land.journeys.size;
            case 3: return goers.size;
            case 4: return land.roads.cap;
            case 5: return leaning;
            case 6: return told.size;
            case 7: return reader.length;
            default: return NONE;
        }
    }

    public int of(int road, int what) throws NoSuchElementException {
        if (!land.roads.has(road) || what < 0 || what > 5) {
            throw new NoSuchElementException();
        }
        return land.roads.tellOf(road, what);
    }

    public int row(int i) throws NoSuchElementException {
        if (i < 0 || i >= told.size) {
            throw new NoSuchElementException();
        }
        return told.at(i);
    }

    // ---- inside

    /** All that a question reckons with is the land's of now, every goer going as told. */
    private void openNow() {
        market.open(land.roads, leaning);
    }

    private static boolean isHouse(int house) {
        return house == 0 || house == 1;
    }

    private boolean canSeek(int house) {
        return isHouse(house)
            && Roads.powerOf(land.roads.cap + 1, Integer.bitCount(land.roads.sideOf(house))) <= Sets.MOST;
    }

    private boolean isAnyWeight() {
        boolean any = false;
        for (int w = 0; w < weights.length; w++) {
            any = any || weights[w] > 0;
        }
        return any;
    }

    private void tellFound(int house) {
        told.clear();
        tellTolls(market.found, land.roads.sideOf(house));
    }

    private void tellTolls(int[] tolls, int slots) {
        for (int s = 0; s < tolls.length; s++) {
            if ((slots >> s & 1) != 0) {
                told.add(tolls[s]);
            }
        }
    }

    /** The numbers told last. */
    static final class Row {
        private final int[] numbers = new int[24];
        int size;

        void clear() {
            size = 0;
        }

        void add(int v) {
            if (size < numbers.length) {
                numbers[size] = v;
                size++;
            }
        }

        int at(int i) {
            return i >= 0 && i < numbers.length ? numbers[i] : NONE;
        }
    }

    /** The roads of a land; those that are tolled have slots 0 .. 4 too, in the same order. */
    static final class Roads {
        static final int MOST = 14;
        static final int MOST_TOLLED = 5;
        private static final int MOST_COST = 99;

        int size;
        int tolled;
        int cap = 6;
        private int closed;
        private final int[] house = new int[MOST];
        final int[] tolls = new int[MOST_TOLLED];
        private final int[] from = new int[MOST];
        private final int[] to = new int[MOST];
        private final int[] cost = new int[MOST];
        private final int[] hours = new int[MOST];
        private final int[] slot = new int[MOST];
        private final int[] roadAt = new int[MOST_TOLLED];

        void copy(Roads other) {
            size = other.size;
            tolled = other.tolled;
            cap = other.cap;
            closed = other.closed;
            System.arraycopy(other.house, 0, house, 0, MOST);
            System.arraycopy(other.tolls, 0, tolls, 0, MOST_TOLLED);
            System.arraycopy(other.from, 0, from, 0, MOST);
            System.arraycopy(other.to, 0, to, 0, MOST);
            System.arraycopy(other.cost, 0, cost, 0, MOST);
            System.arraycopy(other.hours, 0, hours, 0, MOST);
            System.arraycopy(other.slot, 0, slot, 0, MOST);
            System.arraycopy(other.roadAt, 0, roadAt, 0, MOST_TOLLED);
        }

        /** Roads beyond the limits are counted alone: such a land is refused. */
        void add(int owner, int a, int b, int price, int length) {
            boolean owned = owner != NONE;
            if (size < MOST) {
                house[size] = owner;
                from[size] = a;
                to[size] = b;
                cost[size] = price;
                hours[size] = length;
                slot[size] = owned ? tolled : NONE;
            }
            if (owned && tolled < MOST_TOLLED) {
                roadAt[tolled] = size;
                tolls[tolled] = 0;
            }
            tolled += owned ? 1 : 0;
            size++;
        }

        void setCap(int most) {
            cap = most;
            for (int s = 0; s < MOST_TOLLED; s++) {
                tolls[s] = Math.min(tolls[s], most);
            }
        }

        void shut(int road) {
            closed = 1 << road;
        }

        boolean has(int road) {
            return road >= 0 && road < size && road < MOST;
        }

        static boolean canStand(int a, int b, int price) {
            return a >= 0 && a < 8 && b >= 0 && b < 8 && a != b && price >= 0 && price <= MOST_COST;
        }

        int slotAt(int road) {
            int s = has(road) ? slot[road] : NONE;
            return s < MOST_TOLLED ? s : NONE;
        }

        int houseOf(int road) {
            return has(road) ? house[road] : NONE;
        }

        int costOf(int road) {
            return has(road) ? cost[road] : 0;
        }

        int hoursOf(int road) {
            return has(road) ? hours[road] : 0;
        }

        /** The corner at the other end, NONE if the road doesn't touch this one. */
        int across(int road, int corner) {
            if (!has(road)) {
                return NONE;
            }
            return from[road] == corner ? to[road] : to[road] == corner ? from[road] : NONE;
        }

        boolean isOpen(int road) {
            return (closed >> road & 1) == 0;
        }

        /** The slots of a house's roads that are not shut. */
        int sideOf(int owner) {
            int side = 0;
            for (int s = 0; s < tolled && s < MOST_TOLLED; s++) {
                int road = roadAt[s];
                if (houseOf(road) == owner && isOpen(road)) {
                    side |= 1 << s;
                }
            }
            return side;
        }

        int allSlots() {
            return (1 << Math.min(tolled, MOST_TOLLED)) - 1;
        }

        /** The same set, in bits of roads. */
        int roadsOf(int slots) {
            int bits = 0;
            for (int s = 0; s < MOST_TOLLED; s++) {
                if ((slots >> s & 1) != 0) {
                    bits |= 1 << roadAt[s];
                }
            }
            return bits;
        }

        int tellOf(int road, int what) {
            if (!has(road)) {
                return NONE;
            }
            switch (what) {
                case 0: return from[road];
                case 1: return to[road];
                case 2: return cost[road];
                case 3: return hours[road];
                case 4: return house[road];
                default:
                    int s = slotAt(road);
                    return s >= 0 ? tolls[s] : 0;
            }
        }

        static int powerOf(int base, int times) {
            int power = 1;
            for (int i = 0; i < times && i < MOST_TOLLED; i++) {
                power *= base;
            }
            return power;
        }
    }

    /** The journeys of a land: low and high are the worths of their goers. */
    static final class Journeys {
        static final int MOST = 8;
        static final int TIMES = 4;

        int size;
        private final int[] from = new int[MOST];
        private final int[] to = new int[MOST];
        private final int[] many = new int[MOST];
        private final int[] low = new int[MOST];
        private final int[] high = new int[MOST];
        private final int[] crowd = new int[MOST];
        private final int[] known = new int[MOST];
        private final int[] home = new int[MOST];
        private final int[] time = new int[MOST];

        void copy(Journeys other) {
            size = other.size;
            System.arraycopy(other.from, 0, from, 0, MOST);
            System.arraycopy(other.to, 0, to, 0, MOST);
            System.arraycopy(other.many, 0, many, 0, MOST);
            System.arraycopy(other.low, 0, low, 0, MOST);
            System.arraycopy(other.high, 0, high, 0, MOST);
            System.arraycopy(other.crowd, 0, crowd, 0, MOST);
            System.arraycopy(other.known, 0, known, 0, MOST);
            System.arraycopy(other.home, 0, home, 0, MOST);
            System.arraycopy(other.time, 0, time, 0, MOST);
        }

        boolean has(int journey) {
            return journey >= 0 && journey < size && journey < MOST;
        }

        /** Journeys beyond the limit are counted alone: such a land is refused. */
        void add(int a, int b, int goers) {
            if (size < MOST) {
                from[size] = a;
                to[size] = b;
                many[size] = goers;
            }
            size++;
        }

        void worthsOfLatest(int lowest, int highest, boolean isCrowd) {
            int j = size - 1;
            if (has(j)) {
                low[j] = lowest;
                high[j] = highest;
                crowd[j] = isCrowd ? 1 : 0;
            }
        }

        void boundsOfLatest(int roadsKnown, int stay, int when) {
            int j = size - 1;
            if (has(j)) {
                known[j] = Math.min(roadsKnown, Roads.MOST);
                home[j] = stay;
                time[j] = when;
            }
        }

        int fromOf(int journey) {
            return has(journey) ? from[journey] : 0;
        }

        int toOf(int journey) {
            return has(journey) ? to[journey] : 0;
        }

        int manyOf(int journey) {
            return has(journey) ? many[journey] : 0;
        }

        int lowOf(int journey) {
            return has(journey) ? low[journey] : 0;
        }

        int highOf(int journey) {
            return has(journey) ? high[journey] : NONE;
        }

        boolean isCrowd(int journey) {
            return has(journey) && crowd[journey] != 0;
        }

        int knownOf(int journey) {
            return has(journey) ? known[journey] : 0;
        }

        int homeOf(int journey) {
            return has(journey) ? home[journey] : NONE;
        }

        int timeOf(int journey) {
            return has(journey) ? time[journey] : NONE;
        }
    }

    static final class Land {
        final Roads roads = new Roads();
        final Journeys journeys = new Journeys();

        void copy(Land other) {
            roads.copy(other.roads);
            journeys.copy(other.journeys);
        }

        /** Which limit a told land breaks, 0 if none. */
        int excess() {
            if (roads.size > Roads.MOST) {
                return -100;
            }
            if (roads.tolled > Roads.MOST_TOLLED) {
                return -101;
            }
            return journeys.size > Journeys.MOST ? -102 : 0;
        }
    }

    /** Holds THE TEXT and reads it; stuck is set where a sign can't stand. */
    static final class Reader {
        private static final int ROOM = 100;
        private static final int MOST_READ = 60;

        private final int[] signs = new int[ROOM];
        int length;
        private int place;
        private int stop;
        private boolean stuck;

        int push(int v) {
            if (length > ROOM - 4) {
                return NONE;
            }
            for (int shift = 24; shift >= 0; shift -= 8) {
                signs[length] = v >>> shift & 255;
                length++;
            }
            return length;
        }

        boolean cut(int n) {
            if (n < 0 || n > length) {
                return false;
            }
            length = n;
            return true;
        }

        /** How many items, or -1 - the place where it is none. */
        int read(Land land) {
            place = 0;
            stuck = false;
            stop = Math.min(length, MOST_READ);
            int items = 0;
            boolean more = true;
            while (more && items <= MOST_READ) {
                readItem(land);
                items++;
                more = !stuck && place < stop;
                if (more) {
                    want(';');
                }
            }
            if (stuck) {
                return -1 - place;
            }
            return length > MOST_READ ? -1 - MOST_READ : items;
        }

        private void readItem(Land land) {
            if (eat('r')) {
                readRoad(land, NONE);
            } else if (eat('t')) {
                readRoad(land, 0);
            } else if (eat('u')) {
                readRoad(land, 1);
            } else if (eat('j')) {
                readJourney(land);
            } else if (eat('m')) {
                int cap = numeral(0, 20);
                if (!stuck) {
                    land.roads.setCap(cap);
                }
            } else {
                stuck = true;
            }
        }

        private void readRoad(Land land, int owner) {
            int a = corner(NONE);
            int b = corner(a);
            int cost = numeral(0, 99);
            int hours = eat('+') ? digit(0, 9) : 0;
            if (!stuck) {
                land.roads.add(owner, a, b, cost, hours);
            }
        }

        private void readJourney(Land land) {
            int a = corner(NONE);
            int b = corner(a);
            want('*');
            int many = numeral(1, 99);
            int low = 0;
            int high = 0;
            boolean crowd = false;
            if (eat('w')) {
                low = digit(0, 9);
                high = low;
            } else if (eat('c')) {
                low = digit(0, 9);
                want('-');
                high = digit(low, Math.min(9, low + 5));
                crowd = true;
            }
            int known = eat('s') ? numeral(0, 999) : Roads.MOST;
            int home = eat('/') ? numeral(0, 999) : NONE;
            int time = eat('@') ? digit(0, Journeys.TIMES - 1) : 0;
            if (!stuck) {
                land.journeys.add(a, b, many);
                land.journeys.worthsOfLatest(low, high, crowd);
                land.journeys.boundsOfLatest(known, home, time);
            }
        }

        private int next() {
            return place < stop && place < signs.length ? signs[place] : NONE;
        }

        private boolean eat(int sign) {
            if (stuck || next() != sign) {
                return false;
            }
            place++;
            return true;
        }

        private void want(int sign) {
            if (!eat(sign)) {
                stuck = true;
            }
        }

        /** A corner's letter, but not that of the other corner. */
        private int corner(int other) {
            int c = next() - 'a';
            if (stuck || c < 0 || c > 7 || c == other) {
                stuck = true;
                return 0;
            }
            place++;
            return c;
        }

        private int digit(int low, int high) {
            int d = next() - '0';
            if (stuck || d < low || d > high) {
                stuck = true;
                return 0;
            }
            place++;
            return d;
        }

        /** A number of up to three digits; out of its range, its last digit can't stand. */
        private int numeral(int low, int high) {
            int v = 0;
            int digits = 0;
            while (!stuck && digits < 3 && next() >= '0' && next() <= '9') {
                v = v * 10 + next() - '0';
                digits++;
                place++;
            }
            if (stuck || digits == 0) {
                stuck = true;
            } else if (v < low || v > high) {
                place--;
                stuck = true;
            }
            return v;
        }
    }

    /** A walk through the land from corner to corner, that of the goers of one journey. */
    static final class Trip {
        private static final int MOST_ROADS = 7;
        static final int ENOUGH = 200;

        private Roads roads;
        private int goal;
        private int known;
        private int seen;
        int found;
        int first;
        int behind;
        int cost;
        int hours;
        int mask;
        int packed;

        void begin(Land land, int journey) {
            roads = land.roads;
            goal = land.journeys.toOf(journey);
            known = land.journeys.knownOf(journey);
            seen = 1 << land.journeys.fromOf(journey);
            found = 0;
            cost = 0;
            hours = 0;
            mask = 0;
            packed = 0;
        }

        boolean isThere(int corner) {
            return corner == goal;
        }

        boolean isTired(int steps) {
            return steps >= MOST_ROADS || found > ENOUGH;
        }

        int roadsKnown() {
            return roads == null ? 0 : Math.min(known, roads.size);
        }

        /** The corner that a road leads to from here, NONE if it can't be gone. */
        int ahead(int road, int corner) {
            if (roads == null || !roads.isOpen(road)) {
                return NONE;
            }
            int next = roads.across(road, corner);
            return next >= 0 && (seen >> next & 1) == 0 ? next : NONE;
        }

        void step(int road, int corner) {
            if (roads == null) {
                return;
            }
            seen |= 1 << corner;
            cost += roads.costOf(road);
            hours += roads.hoursOf(road);
            packed = packed << 4 | road;
            int slot = roads.slotAt(road);
            mask |= slot >= 0 ? 1 << slot : 0;
        }

        void back(int road, int corner) {
            if (roads == null) {
                return;
            }
            seen &= ~(1 << corner);
            cost -= roads.costOf(road);
            hours -= roads.hoursOf(road);
            packed >>>= 4;
            int slot = roads.slotAt(road);
            mask &= slot >= 0 ? ~(1 << slot) : -1;
        }
    }

    /**
     * All goers, and of each, by the set of tolled slots that its ways lead over (a mask), the one
     * way that it would take: tolls do not part ways of one mask.
     */
    static final class Goers {
        static final int MOST = 48;
        static final int MASKS = 32;
        private static final int MOST_PAIN = 2147483647;

        int size;
        private Journeys journeys;
        private final Trip trip = new Trip();
        private final int[] journey = new int[MOST];
        private final int[] worth = new int[MOST];
        private final int[] many = new int[MOST];
        private final int[] first = new int[Journeys.MOST];
        private final int[] ways = new int[Journeys.MOST];
        /** Pains but for tolls, NONE where there is no such way. */
        private final int[] base = new int[MOST * MASKS];
        /** How many roads, and they, four bits each: the less one goes ahead in a draw. */
        private final int[] rank = new int[MOST * MASKS];
        /** Ways that some tolls may lead to, by rank: base above mask. */
        private final int[] list = new int[MOST * MASKS];
        private final int[] listed = new int[MOST];
        /** The slots that listed ways lead over. */
        private final int[] reach = new int[MOST];

        Goers(Journeys none) {
            journeys = none;
        }

        /** False if a journey has too many ways; then nothing may be asked. */
        boolean survey(Land land) {
            journeys = land.journeys;
            size = 0;
            boolean fits = true;
            for (int j = 0; j < journeys.size && j < Journeys.MOST; j++) {
                enter(j);
                trip.begin(land, j);
                trip.first = first[j];
                trip.behind = size;
                walk(this, trip, journeys.fromOf(j), 0);
                int home = journeys.homeOf(j);
                ways[j] = trip.found + (home >= 0 ? 1 : 0);
                fits = fits && ways[j] <= Trip.ENOUGH;
                settle(home, ways[j], land.roads.cap);
            }
            return fits;
        }

        private void enter(int j) {
            first[j] = size;
            for (int w = journeys.lowOf(j); w <= journeys.highOf(j) && size < MOST; w++) {
                journey[size] = j;
                worth[size] = w;
                many[size] = journeys.manyOf(j);
                for (int m = 0; m < MASKS; m++) {
                    base[size * MASKS + m] = NONE;
                }
                size++;
            }
        }

        private static void walk(Goers goers, Trip trip, int corner, int steps) {
            if (trip.isThere(corner)) {
                goers.arrive(trip, steps);
                return;
            }
            int known = trip.roadsKnown();
            for (int r = 0; r < known && !trip.isTired(steps); r++) {
                int next = trip.ahead(r, corner);
                if (next >= 0) {
                    trip.step(r, next);
                    walk(goers, trip, next, steps + 1);
                    trip.back(r, next);
                }
            }
        }

        private void arrive(Trip way, int steps) {
            way.found++;
            for (int g = way.first; g < way.behind && g < MOST; g++) {
                offer(g, way.mask, way.cost + worth[g] * way.hours, steps << 28 | way.packed);
            }
        }

        private void offer(int g, int mask, int pain, int order) {
            int i = g * MASKS + (mask & MASKS - 1);
            if (i < 0 || i >= base.length) {
                return;
            }
            if (base[i] < 0 || pain < base[i] || pain == base[i] && order < rank[i]) {
                base[i] = pain;
                rank[i] = order;
            }
        }

        /** Staying at home, or for want of any way, is a row of no roads too. */
        private void settle(int home, int waysThere, int cap) {
            for (int g = trip.first; g < trip.behind && g < MOST; g++) {
                if (home >= 0) {
                    offer(g, 0, home, 0);
                } else if (waysThere == 0) {
                    offer(g, 0, 0, 0);
                }
                listed[g] = 0;
                reach[g] = 0;
                for (int m = 0; m < MASKS; m++) {
                    if (base[g * MASKS + m] >= 0 && !isBeaten(g * MASKS, m, cap)) {
                        insert(g, m);
                    }
                }
            }
        }

        /** Whether with no tolls this way would be taken: another one is always better. */
        private boolean isBeaten(int start, int mask, int cap) {
            int here = start + mask;
            if (start < 0 || mask < 0 || here >= base.length) {
                return true;
            }
            for (int m = 0; m < MASKS && start + m < base.length; m++) {
                int there = start + m;
                if (m != mask && base[there] >= 0) {
                    int more = base[there] + cap * Integer.bitCount(m & ~mask);
                    boolean within = (m & ~mask) == 0;
                    if (more < base[here] || within && more == base[here] && rank[there] < rank[here]) {
                        return true;
                    }
                }
            }
            return false;
        }

        private void insert(int g, int mask) {
            int start = g * MASKS;
            int i = start + listed[g];
            if (i >= list.length) {
                return;
            }
            int order = rank[start + mask];
            while (i > start && rank[start + (list[i - 1] & MASKS - 1)] > order) {
                list[i] = list[i - 1];
                i--;
            }
            list[i] = base[start + mask] << 8 | mask;
            listed[g]++;
            reach[g] |= mask;
        }

        boolean has(int g) {
            return g >= 0 && g < size && g < MOST;
        }

        int find(int j, int worthAsked) {
            if (!journeys.has(j) || worthAsked < journeys.lowOf(j) || worthAsked > journeys.highOf(j)) {
                return NONE;
            }
            return first[j] + worthAsked - journeys.lowOf(j);
        }

        int waysOf(int j) {
            return journeys.has(j) ? ways[j] : NONE;
        }

        int manyOf(int g) {
            return has(g) ? many[g] : 0;
        }

        int worthOf(int g) {
            return has(g) ? worth[g] : 0;
        }

        int timeOf(int g) {
            return has(g) ? journeys.timeOf(journey[g]) : NONE;
        }

        boolean isOfCrowd(int g) {
            return has(g) && journeys.isCrowd(journey[g]);
        }

        boolean mayPay(int g, int side) {
            return has(g) && (reach[g] & side) != 0;
        }

        int baseOf(int g, int mask) {
            return has(g) ? base[g * MASKS + (mask & MASKS - 1)] : NONE;
        }

        int rankOf(int g, int mask) {
            return has(g) ? rank[g * MASKS + (mask & MASKS - 1)] : 0;
        }

        /**
         * The mask of the way that a goer takes. Tolls come as 256 times their sum less or more that
         * sum (by lean), so that one number holds pains and draws; the list's order decides the rest.
         */
        int choice(int g, int[] tolls) {
            if (!has(g) || tolls.length < MASKS) {
                return 0;
            }
            int start = g * MASKS;
            int least = MOST_PAIN;
            int mask = 0;
            for (int i = start; i < start + listed[g] && i < list.length; i++) {
                int p = list[i];
                int pain = (p & ~255) + tolls[p & MASKS - 1];
                if (pain < least) {
                    least = pain;
                    mask = p & MASKS - 1;
                }
            }
            return mask;
        }

        boolean passes(int g, int mask, int road) {
            int order = rankOf(g, mask);
            boolean found = false;
            for (int i = (order >>> 28) - 1; i >= 0; i--) {
                found = found || (order >>> 4 * i & 15) == road;
            }
            return found;
        }

        int tellRoads(int order, Row row) {
            row.clear();
            for (int i = (order >>> 28) - 1; i >= 0; i--) {
                row.add(order >>> 4 * i & 15);
            }
            return row.size;
        }
    }

    /** Tolls of all slots, gone through set by set, and their sums over each mask of slots. */
    static final class Sets {
        static final int MOST = 20000;

        final int[] tolls = new int[Roads.MOST_TOLLED];
        final int[] sum = new int[Goers.MASKS];
        final int[] worse = new int[Goers.MASKS];
        /** How many slots there are roads for: no way has a mask of others. */
        int slots;
        private int moved;
        private int cap;
        private int factor;

        /** How many sets there are, with tolls of the moved slots 0 .. most; the first stands. */
        int begin(int[] from, int movedSlots, int most, int lean) {
            moved = movedSlots;
            cap = most;
            factor = lean == 0 ? 255 : 257;
            for (int s = 0; s < tolls.length; s++) {
                tolls[s] = (moved >> s & 1) != 0 || s >= from.length ? 0 : from[s];
            }
            reckon(0);
            return Roads.powerOf(cap + 1, Integer.bitCount(moved & Goers.MASKS - 1));
        }

        void next() {
            int lowest = tolls.length;
            boolean carry = true;
            for (int s = tolls.length - 1; s >= 0 && carry; s--) {
                if ((moved >> s & 1) != 0) {
                    carry = tolls[s] >= cap;
                    tolls[s] = carry ? 0 : tolls[s] + 1;
                    lowest = s;
                }
            }
            reckon(lowest);
        }

        /** Sums of masks whose highest slot is below the first changed one stay as they are. */
        private void reckon(int changed) {
            for (int s = changed; s >= 0 && s < slots && s < tolls.length; s++) {
                int bit = 1 << s;
                for (int m = 0; m < bit && bit + m < sum.length; m++) {
                    sum[bit + m] = sum[m] + tolls[s];
                    worse[bit + m] = sum[bit + m] * factor;
                }
            }
        }

        int sumOf(int mask) {
            return sum[mask & Goers.MASKS - 1];
        }

        /** Which set of some slots this is, by number. */
        int placeOf(int slots) {
            int place = 0;
            for (int s = 0; s < tolls.length; s++) {
                if ((slots >> s & 1) != 0) {
                    place = place * (cap + 1) + tolls[s];
                }
            }
            return place;
        }
    }

    /** What goers pay by tolls: those of now, others, or the best. A share is how often a goer counts. */
    static final class Market {
        final Sets sets = new Sets();
        final int[] found = new int[Roads.MOST_TOLLED];
        Roads roads;
        private final Goers goers;
        private final int[] share = new int[Goers.MOST];
        private int lean;

        Market(Goers all, Roads none) {
            goers = all;
            roads = none;
        }

        void open(Roads land, int how) {
            roads = land;
            lean = how;
            sets.slots = land.tolled;
            for (int g = 0; g < goers.size && g < share.length; g++) {
                share[g] = goers.manyOf(g);
            }
            fix(roads.tolls);
        }

        void shareTime(int time) {
            for (int g = 0; g < goers.size && g < share.length; g++) {
                share[g] = goers.timeOf(g) == time ? goers.manyOf(g) : 0;
            }
        }

        void shareMean(int[] weights) {
            int all = 0;
            for (int w = 0; w < weights.length; w++) {
                all += weights[w];
            }
            for (int g = 0; g < goers.size && g < share.length; g++) {
                int worth = goers.worthOf(g);
                int own = worth >= 0 && worth < weights.length ? weights[worth] : 0;
                share[g] = goers.manyOf(g) * (goers.isOfCrowd(g) ? own : all);
            }
        }

        /** All is asked by these tolls from now on. */
        void fix(int[] tolls) {
            sets.begin(tolls, 0, roads.cap, lean);
        }

        int begin(int[] from, int moved, int cap) {
            return sets.begin(from, moved, cap, lean);
        }

        int choice(int g) {
            return goers.choice(g, sets.worse);
        }

        int painsOf(int g, int mask) {
            return goers.baseOf(g, mask) + sets.sumOf(mask);
        }

        /** Least pains by a way that lacks a tolled road of this one's, NONE if there is none. */
        int leastWithout(int g, int own) {
            int least = NONE;
            for (int m = 0; m < Goers.MASKS; m++) {
                if ((m & own) != own && goers.baseOf(g, m) >= 0) {
                    int pain = painsOf(g, m);
                    least = least < 0 || pain < least ? pain : least;
                }
            }
            return least;
        }

        int brought(int side) {
            int sum = 0;
            for (int g = 0; g < goers.size && g < share.length; g++) {
                if (share[g] != 0 && goers.mayPay(g, side)) {
                    sum += share[g] * sets.sumOf(goers.choice(g, sets.worse) & side);
                }
            }
            return sum;
        }

        int sufferedNow() {
            int sum = 0;
            for (int g = 0; g < goers.size && g < share.length; g++) {
                sum += share[g] * painsOf(g, choice(g));
            }
            return sum;
        }

        int bestOf(int house) {
            int side = roads.sideOf(house);
            return hunt(roads.tolls, side, side, roads.cap);
        }

        /** The greatest take of a side by tolls of the moved slots; found are the first such. */
        int hunt(int[] from, int side, int moved, int cap) {
            int total = begin(from, moved, cap);
            int most = NONE;
            for (int i = 0; i < total; i++) {
                int take = brought(side);
                if (take > most) {
                    most = take;
                    keep();
                }
                sets.next();
            }
            return most;
        }

        void keep() {
            System.arraycopy(sets.tolls, 0, found, 0, Roads.MOST_TOLLED);
        }
    }

    /** Questions about one house's tolls that go beyond its best. */
    static final class Study {
        private static final int MOST_ROUNDS = 1000000;
        private static final int WORLDS = 10;

        /** What spareOf and ceilingOf told: a set of slots or a cap, and the take by it. */
        int chosen;
        int brings;
        /** Where climbOf came to: the take, and the tolls. */
        int climbed;
        final int[] heights = new int[Roads.MOST_TOLLED];
        private final Market market;
        private final Goers goers;
        private final int[] work = new int[Roads.MOST_TOLLED];
        private final int[] line = new int[21];
        private final int[] now = new int[Goers.MOST];
        private final int[] most = new int[Goers.MASKS];
        private final int[] world = new int[WORLDS];

        Study(Market all, Goers everyone) {
            market = all;
            goers = everyone;
        }

        int boundOf(int house) {
            int side = market.roads.sideOf(house);
            for (int g = 0; g < now.length; g++) {
                now[g] = 0;
            }
            int total = market.begin(market.roads.tolls, side, market.roads.cap);
            for (int i = 0; i < total; i++) {
                for (int g = 0; g < goers.size && g < now.length; g++) {
                    now[g] = Math.max(now[g], market.sets.sumOf(market.choice(g) & side));
                }
                market.sets.next();
            }
            int sum = 0;
            for (int g = 0; g < goers.size && g < now.length; g++) {
                sum += goers.manyOf(g) * now[g];
            }
            return sum;
        }

        int givenOf(int house) {
            int side = market.roads.sideOf(house);
            for (int g = 0; g < goers.size && g < now.length; g++) {
                now[g] = market.choice(g);
            }
            int greatest = NONE;
            int total = market.begin(market.roads.tolls, side, market.roads.cap);
            for (int i = 0; i < total; i++) {
                int take = takeIfAsNow(side);
                if (take > greatest) {
                    greatest = take;
                    market.keep();
                }
                market.sets.next();
            }
            return greatest;
        }

        private int takeIfAsNow(int side) {
            int sum = 0;
            for (int g = 0; g < goers.size && g < now.length; g++) {
                if (market.choice(g) != now[g]) {
                    return NONE;
                }
                sum += goers.manyOf(g) * market.sets.sumOf(now[g] & side);
            }
            return sum;
        }

        int aboveOf(int house, int least) {
            int side = market.roads.sideOf(house);
            int many = 0;
            int total = market.begin(market.roads.tolls, side, market.roads.cap);
            for (int i = 0; i < total; i++) {
                many += market.brought(side) >= least ? 1 : 0;
                market.sets.next();
            }
            return many;
        }

        int reckonLine(int slot) {
            return lineFrom(market.roads.tolls, slot, ownerSide(slot));
        }

        private int ownerSide(int slot) {
            int side = market.roads.sideOf(0);
            return (side >> slot & 1) != 0 ? side : market.roads.sideOf(1);
        }

        private int lineFrom(int[] from, int slot, int side) {
            int greatest = NONE;
            int total = market.begin(from, 1 << slot, market.roads.cap);
            for (int v = 0; v < total && v < line.length; v++) {
                line[v] = market.brought(side);
                greatest = Math.max(greatest, line[v]);
                market.sets.next();
            }
            return greatest;
        }

        int lineAt(int v) {
            return v >= 0 && v < line.length ? line[v] : 0;
        }

        /** How many tolls changed; each change brings more, so the rounds end. */
        int climbOf(int house) {
            System.arraycopy(market.roads.tolls, 0, heights, 0, heights.length);
            int side = market.roads.sideOf(house);
            int changes = 0;
            boolean moved = true;
            for (int i = 0; i < MOST_ROUNDS && moved; i++) {
                int before = changes;
                for (int s = 0; s < heights.length; s++) {
                    changes += (side >> s & 1) != 0 && lift(s, side) ? 1 : 0;
                }
                moved = changes != before;
            }
            market.fix(heights);
            climbed = market.brought(side);
            return changes;
        }

        private boolean lift(int slot, int side) {
            int greatest = lineFrom(heights, slot, side);
            if (slot < 0 || slot >= heights.length || lineAt(heights[slot]) == greatest) {
                return false;
            }
            boolean lifted = false;
            for (int v = 0; v <= market.roads.cap && !lifted; v++) {
                if (lineAt(v) == greatest) {
                    heights[slot] = v;
                    lifted = true;
                }
            }
            return lifted;
        }

        private int huntWithFree(int side, int free) {
            for (int s = 0; s < work.length; s++) {
                work[s] = (free >> s & 1) != 0 ? 0 : market.roads.tolls[s];
            }
            return market.hunt(work, side, side & ~free, market.roads.cap);
        }

        int bestWithFree(int house, int free) {
            return huntWithFree(market.roads.sideOf(house), free);
        }

        int spareOf(int house, int k) {
            int side = market.roads.sideOf(house);
            int least = NONE;
            for (int free = 0; free < Goers.MASKS; free++) {
                if ((free & ~side) == 0 && Integer.bitCount(free) == k) {
                    int take = huntWithFree(side, free);
                    market.fix(market.found);
                    int suffered = market.sufferedNow();
                    if (least < 0 || suffered < least) {
                        least = suffered;
                        chosen = free;
                        brings = take;
                    }
                }
            }
            return least;
        }

        int ceilingOf(int house) {
            int side = market.roads.sideOf(house);
            int least = NONE;
            for (int cap = 0; cap <= market.roads.cap; cap++) {
                int take = market.hunt(market.roads.tolls, side, side, cap);
                market.fix(market.found);
                int suffered = market.sufferedNow();
                if (least < 0 || suffered <= least) {
                    least = suffered;
                    chosen = cap;
                    brings = take;
                }
            }
            return least;
        }

        int safeOf(int house, int[] weights) {
            int side = market.roads.sideOf(house);
            int greatest = NONE;
            int total = market.begin(market.roads.tolls, side, market.roads.cap);
            for (int i = 0; i < total; i++) {
                int least = leastTake(side, weights);
                if (least > greatest) {
                    greatest = least;
                    market.keep();
                }
                market.sets.next();
            }
            return greatest;
        }

        private int leastTake(int side, int[] weights) {
            int sure = clearWorlds();
            for (int g = 0; g < goers.size; g++) {
                sure += addTo(g, goers.manyOf(g) * market.sets.sumOf(market.choice(g) & side));
            }
            int least = NONE;
            for (int w = 0; w < world.length && w < weights.length; w++) {
                int take = sure + world[w];
                if (weights[w] > 0 && (least < 0 || take < least)) {
                    least = take;
                }
            }
            return least;
        }

        int worldsWith(int road, int v) {
            int sure = clearWorlds();
            for (int g = 0; g < goers.size; g++) {
                sure += goers.passes(g, market.choice(g), road) ? addTo(g, goers.manyOf(g)) : 0;
            }
            int bits = 0;
            for (int w = 0; w < world.length; w++) {
                bits |= sure + world[w] == v ? 1 << w : 0;
            }
            return bits;
        }

        private int clearWorlds() {
            for (int w = 0; w < world.length; w++) {
                world[w] = 0;
            }
            return 0;
        }

        /** A goer of a crowd counts in its own world alone; what the others bring is sure. */
        private int addTo(int g, int v) {
            int worth = goers.worthOf(g);
            if (!goers.isOfCrowd(g)) {
                return v;
            }
            if (worth >= 0 && worth < world.length) {
                world[worth] += v;
            }
            return 0;
        }

        /** What the best take grows by with this slot, summed over all orders of its house's. */
        int growths(int house, int slot) {
            int side = market.roads.sideOf(house);
            int bit = 1 << slot;
            int size = Integer.bitCount(side);
            for (int ahead = 0; ahead < most.length; ahead++) {
                most[ahead] = (ahead & ~side) == 0 ? huntWithFree(side, side & ~ahead) : 0;
            }
            int sum = 0;
            for (int ahead = 0; ahead < most.length; ahead++) {
                if ((ahead & ~side) == 0 && (ahead & bit) == 0 && (ahead | bit) < most.length) {
                    int many = Integer.bitCount(ahead);
                    sum += orders(many) * orders(size - many - 1) * (most[ahead | bit] - most[ahead]);
                }
            }
            return sum;
        }

        static int orders(int n) {
            int product = 1;
            for (int i = 2; i <= n && i <= Roads.MOST_TOLLED; i++) {
                product *= i;
            }
            return product;
        }

        static int commonPart(int a, int b) {
            int x = Math.abs(a);
            int y = Math.abs(b);
            for (int i = 0; i < 100 && y > 0; i++) {
                int rest = x % y;
                x = y;
                y = rest;
            }
            return x;
        }
    }

    /** Two houses that answer each other. */
    static final class Duel {
        static final int MOST_ANSWERS = 60;
        static final int MOST_JOINT = 2000;
        private static final int RING = -2;
        private static final int UNDECIDED = -3;

        final int[] tolls = new int[Roads.MOST_TOLLED];
        private final Market market;
        private final int[] behind = new int[MOST_ANSWERS];
        private final int[] tops = new int[MOST_JOINT + 1];

        Duel(Market all) {
            market = all;
        }

        int brought(int house, int[] asked, Roads roads) {
            market.fix(asked);
            return market.brought(roads.sideOf(house));
        }

        int answer(int n, Roads roads) {
            System.arraycopy(roads.tolls, 0, tolls, 0, tolls.length);
            int calm = 0;
            for (int i = 0; i < n && i < behind.length; i++) {
                int before = packed();
                int side = roads.sideOf(i & 1);
                market.hunt(tolls, side, side, roads.cap);
                System.arraycopy(market.found, 0, tolls, 0, tolls.length);
                behind[i] = packed();
                calm = behind[i] == before ? calm + 1 : 0;
                if (calm == 2) {
                    return i - 1;
                }
                if (wasBehind(i)) {
                    return RING;
                }
            }
            return UNDECIDED;
        }

        private int packed() {
            int all = 0;
            for (int s = 0; s < tolls.length; s++) {
                all = all << 5 | tolls[s];
            }
            return all;
        }

        private boolean wasBehind(int i) {
            boolean was = false;
            for (int k = i - 2; k >= 0 && i < behind.length; k -= 2) {
                was = was || behind[k] == behind[i];
            }
            return was;
        }

        /** How many rests; the first comes into tolls. */
        int countRests(Roads roads) {
            int mine = roads.sideOf(0);
            int yours = roads.sideOf(1);
            int width = Roads.powerOf(roads.cap + 1, Integer.bitCount(yours));
            for (int i = 0; i < tops.length; i++) {
                tops[i] = 0;
            }
            int total = market.begin(roads.tolls, mine | yours, roads.cap);
            for (int i = 0; i < total; i++) {
                raise(market.sets.placeOf(yours), market.brought(mine));
                raise(width + market.sets.placeOf(mine), market.brought(yours));
                market.sets.next();
            }
            int many = 0;
            total = market.begin(roads.tolls, mine | yours, roads.cap);
            for (int i = 0; i < total; i++) {
                if (topAt(market.sets.placeOf(yours)) == market.brought(mine)
                        && topAt(width + market.sets.placeOf(mine)) == market.brought(yours)) {
                    if (many == 0) {
                        System.arraycopy(market.sets.tolls, 0, tolls, 0, tolls.length);
                    }
                    many++;
                }
                market.sets.next();
            }
            return many;
        }

        private void raise(int place, int take) {
            if (place >= 0 && place < tops.length) {
                tops[place] = Math.max(tops[place], take);
            }
        }

        private int topAt(int place) {
            return place >= 0 && place < tops.length ? tops[place] : 0;
        }
    }
}
