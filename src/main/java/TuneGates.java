import java.util.Arrays;
import java.util.NoSuchElementException;

/**
 * Turnpikes by song: a text tells places, roads, gates that lift to tunes, inns and people; calls ask
 * who comes where by what he can sing, and let people go, buy and teach.
 */
public final class TuneGates {
    public static final int NONE = -1;

    private static final int NOT_THERE = -2;
    private static final int NO_SALE = -1000;

    private static final int NOT_REFUSED = 0;
    private static final int NO_SUCH = 1;
    private static final int BAD_NUMBER = 2;
    private static final int NO_ROOM = 3;
    private static final int FAULTY = 4;
    private static final int NOT_SO = 5;
    private static final int NOTHING = 6;

    private static final int FED_AT_ONCE = 20;
    private static final int MOST_SOLD = 99;
    private static final int MOST_DAYS = 90;
    private static final int GATE_PARTS = 2;

    private int refusal;

    /** Without any place while there is no ROAD: every number is out of its bounds then. */
    private Road road = new Road();
    private final Reader reader = new Reader();
    private final Now now = new Now();
    private final Ways ways = new Ways();
    private final Trips trips = new Trips();
    private final Songs songs = new Songs();
    private final Pairs pairs = new Pairs();
    private final Stranger stranger = new Stranger();
    private final Days days = new Days();

    public TuneGates() {
    }

    // ---- the road

    public int feed(int a, int b, int c, int d, int e) {
        if (!reader.hasRoomFor(FED_AT_ONCE)) {
            return NONE;
        }
        reader.append(a);
        reader.append(b);
        reader.append(c);
        reader.append(d);
        reader.append(e);
        return reader.fed;
    }

    public int turnpike(int n) {
        if (n < 0 || n > reader.fed) {
            return refuse(BAD_NUMBER);
        }
        if (!reader.read(n)) {
            return refuse(FAULTY);
        }
        road = reader.exchange(road);
        now.begin(road.start);
        Gates.settle(road);
        songs.forget();
        pairs.settle(road);
        stranger.settle(road);
        return answer(road.places);
    }

    public int fault() {
        return reader.fault;
    }

    public int where() {
        return refusal == FAULTY ? reader.faultAt : NONE;
    }

    // ---- now

    public int length(int t) {
        return isTune(t) ? answer(road.lengths[t]) : refuse(NO_SUCH);
    }

    public int sung(int t, int i, boolean forged) {
        if (!isTune(t) || i < 0 || i >= road.lengths[t]) {
            return refuse(NO_SUCH);
        }
        return answer(Gates.noteSung(road, t, i, forged, now.rains()));
    }

    public int road(int p, int q) {
        if (!areTwoPlaces(p, q)) {
            return refuse(NO_SUCH);
        }
        int r = road.roadBetween(p, q);
        return answer(r < 0 ? NOT_THERE : road.minutes[r]);
    }

    public int gate(int p, int q, int what) {
        if (!areTwoPlaces(p, q) || what < 0 || what >= GATE_PARTS) {
            return refuse(NO_SUCH);
        }
        int r = road.roadBetween(p, q);
        if (r < 0 || !road.hasGate(r)) {
            return answer(NOT_THERE);
        }
        return answer(what == 0 ? road.kinds[r] : road.gateTunes[r]);
    }

    public int inn(int k, int what) {
        if (!isInn(k) || what < 0 || what >= Road.INN_PARTS) {
            return refuse(NO_SUCH);
        }
        return answer(road.innPart(k, what));
    }

    public int person(int x, int what) {
        if (!isPerson(x) || what < 0 || what >= Now.PARTS) {
            return refuse(NO_SUCH);
        }
        return answer(now.of(x, what));
    }

    public int lifts(int p, int q, int t, boolean forged) {
        int r = roadOf(p, q);
        if (r < 0 || !isTune(t)) {
            return refuse(NO_SUCH);
        }
        return answer(Gates.isOpen(road, r, Gates.voice(t, forged), now.rains()) ? 1 : 0);
    }

    public int passes(int x, int p, int q) {
        int r = roadOf(p, q);
        if (r < 0 || !isPerson(x)) {
            return refuse(NO_SUCH);
        }
        return answer(Gates.isOpen(road, r, now.voices(x), now.rains()) ? 1 : 0);
    }

    public int opens(int t) {
        if (!isTune(t)) {
            return refuse(NO_SUCH);
        }
        return answer(Gates.gatesOpenTo(road, Gates.voice(t, false), now.rains()));
    }

    public int likest() {
        return isTold() ? answer(Pairs.mostAlike(road)) : refuse(NO_SUCH);
    }

    // ---- ways

    public int way(int x, int p) {
        if (!isPerson(x) || !isPlace(p)) {
            return refuse(NO_SUCH);
        }
        int minutes = minutesTo(x, p);
        return answer(minutes < Ways.FAR ? minutes : NOT_THERE);
    }

    public int wayAt(int x, int p, int i) {
        if (!isPerson(x) || !isPlace(p)) {
            return refuse(NO_SUCH);
        }
        ways.measure(road, p, now.voices(x), now.rains());
        int place = ways.placeOn(road, now.of(x, Now.PLACE), p, i);
        return place < 0 ? refuse(NO_SUCH) : answer(place);
    }

    public int reach(int x) {
        return isPerson(x) ? answer(reachBy(x, 0, now.rains())) : refuse(NO_SUCH);
    }

    public int reachIf(int x, boolean rain) {
        return isPerson(x) ? answer(reachBy(x, 0, rain)) : refuse(NO_SUCH);
    }

    public int bestTune(int x) {
        if (!isPerson(x)) {
            return refuse(NO_SUCH);
        }
        int best = NOT_THERE;
        int most = Integer.bitCount(reachBy(x, 0, now.rains()));
        for (int t = 0; t < road.tunes; t++) {
            int reached = Integer.bitCount(reachBy(x, Gates.voice(t, false), now.rains()));
            if (reached > most) {
                most = reached;
                best = t;
            }
        }
        return answer(best);
    }

    public int trip(int x, int p) {
        if (!isPerson(x) || !isPlace(p)) {
            return refuse(NO_SUCH);
        }
        trips.plan(road, now, x);
        int set = trips.bestSet(road, p);
        return answer(set < 0 ? NOT_THERE : trips.coinsOf(set));
    }

    public int tripInns(int x, int p) {
        if (!isPerson(x) || !isPlace(p)) {
            return refuse(NO_SUCH);
        }
        trips.plan(road, now, x);
        return answer(trips.bestSet(road, p));
    }

    public int farReach(int x) {
        if (!isPerson(x)) {
            return refuse(NO_SUCH);
        }
        trips.plan(road, now, x);
        return answer(trips.placesOfAll(road));
    }

    public int soonest(int p) {
        if (!isPlace(p)) {
            return refuse(NO_SUCH);
        }
        int best = NOT_THERE;
        int least = Ways.FAR;
        for (int x = 0; x < road.people; x++) {
            int minutes = minutesTo(x, p);
            if (minutes < least) {
                least = minutes;
                best = x;
            }
        }
        return answer(best);
    }

    // ---- songs

    public int song(int tunes) {
        if (!areTunes(tunes)) {
            return refuse(NO_SUCH);
        }
        songs.compose(road, tunes);
        return answer(songs.notes());
    }

    public int songAt(int tunes, int i) {
        if (!areTunes(tunes)) {
            return refuse(NO_SUCH);
        }
        songs.compose(road, tunes);
        return i < 0 || i >= songs.notes() ? refuse(NO_SUCH) : answer(songs.noteAt(road, i));
    }

    public int overlap(int t, int u) {
        return areTwoTunes(t, u) ? answer(Songs.notesInCommon(road, t, u)) : refuse(NO_SUCH);
    }

    public int together(int t, int u) {
        return areTwoTunes(t, u) ? answer(Pairs.goTogether(road, t, u) ? 1 : 0) : refuse(NO_SUCH);
    }

    public int pairs() {
        return isTold() ? answer(pairs.howMany(road)) : refuse(NO_SUCH);
    }

    public int partner(int t) {
        return isTune(t) ? answer(pairs.partners[t]) : refuse(NO_SUCH);
    }

    // ---- the stranger

    public int rows() {
        return isTold() ? answer(stranger.allRows(road)) : refuse(NO_SUCH);
    }

    public int could(int k) {
        return isPlaceInRow(k) ? answer(stranger.placesAt(road, k)) : refuse(NO_SUCH);
    }

    public int surely(int k) {
        if (!isPlaceInRow(k)) {
            return refuse(NO_SUCH);
        }
        int places = stranger.placesAt(road, k);
        return answer(Integer.bitCount(places) == 1 ? Integer.numberOfTrailingZeros(places) : NOT_THERE);
    }

    public int ask() {
        return isTold() ? answer(stranger.whatToAsk(road)) : refuse(NO_SUCH);
    }

    public int askLeaves() {
        if (!isTold()) {
            return refuse(NO_SUCH);
        }
        int k = stranger.whatToAsk(road);
        return answer(k < 0 ? NOT_THERE : stranger.mostLeft(road, k));
    }

    public int suspect() {
        if (!isTold()) {
            return refuse(NO_SUCH);
        }
        int heard = road.heardAsBits();
        for (int x = 0; x < road.people; x++) {
            if ((heard & ~now.of(x, Now.KNOWN)) == 0) {
                return answer(x);
            }
        }
        return answer(NOT_THERE);
    }

    // ---- two inns

    public int sells(int many, int one, int other, boolean ofOther) {
        refusal = isTold() ? NOT_REFUSED : NO_SUCH;
        if (refusal == NOT_REFUSED && !(isMany(many) && TwoInns.isPrice(one) && TwoInns.isPrice(other))) {
            refusal = BAD_NUMBER;
        }
        if (refusal != NOT_REFUSED) {
            return NO_SALE;
        }
        return ofOther ? TwoInns.share(many, other, one) : TwoInns.share(many, one, other);
    }

    public int rests(int many) {
        if (!isTold()) {
            return refuse(NO_SUCH);
        }
        return isMany(many) ? answer(TwoInns.countRests(many)) : refuse(BAD_NUMBER);
    }

    public int rest(int many) {
        if (!isTold()) {
            return refuse(NO_SUCH);
        }
        return isMany(many) ? answer(TwoInns.firstRest(many)) : refuse(BAD_NUMBER);
    }

    // ---- days

    public int roams(int x, int seed, int n) {
        if (!isPerson(x)) {
            return refuse(NO_SUCH);
        }
        return letDaysPass(x, NONE, seed, n) ? answer(days.place) : NONE;
    }

    public int roamed(int x, int seed, int n) {
        if (!isPerson(x)) {
            return refuse(NO_SUCH);
        }
        return letDaysPass(x, NONE, seed, n) ? answer(days.went) : NONE;
    }

    public int roamsTo(int x, int p, int seed, int n) {
        if (!isPerson(x) || !isPlace(p)) {
            return refuse(NO_SUCH);
        }
        return letDaysPass(x, p, seed, n) ? answer(days.firstAtGoal) : NONE;
    }

    // ---- acts

    public int go(int x, int p) {
        if (!isPerson(x) || !isPlace(p)) {
            return refuse(NO_SUCH);
        }
        int r = roadOf(now.of(x, Now.PLACE), p);
        if (r < 0 || !Gates.isOpen(road, r, now.voices(x), now.rains())) {
            return refuse(NOT_SO);
        }
        now.keep();
        now.set(x, Now.PLACE, p);
        now.set(x, Now.MINUTES, now.of(x, Now.MINUTES) + road.minutes[r]);
        return answer(now.of(x, Now.MINUTES));
    }

    public int buy(int x, int k) {
        if (!isPerson(x) || !isInn(k)) {
            return refuse(NO_SUCH);
        }
        int sort = road.innPart(k, Road.INN_FORGES) == 1 ? Now.FORGED : Now.KNOWN;
        int tune = 1 << road.innPart(k, Road.INN_TUNE);
        if (now.of(x, Now.PLACE) != road.innPart(k, Road.INN_PLACE) || (now.of(x, sort) & tune) != 0) {
            return refuse(NOT_SO);
        }
        int coins = now.of(x, Now.COINS) - road.innPart(k, Road.INN_PRICE);
        if (coins < 0) {
            return refuse(NOTHING);
        }
        now.keep();
        now.set(x, Now.COINS, coins);
        now.set(x, sort, now.of(x, sort) | tune);
        return answer(coins);
    }

    public boolean teach(int x, int y, int t) {
        if (!isPerson(x) || !isPerson(y) || x == y || !isTune(t)) {
            return isAllowed(NO_SUCH);
        }
        int tune = 1 << t;
        boolean meet = now.of(x, Now.PLACE) == now.of(y, Now.PLACE);
        if (!meet || (now.of(x, Now.KNOWN) & tune) == 0 || (now.of(y, Now.KNOWN) & tune) != 0) {
            return isAllowed(NOT_SO);
        }
        now.keep();
        now.set(y, Now.KNOWN, now.of(y, Now.KNOWN) | tune);
        return isAllowed(NOT_REFUSED);
    }

    public boolean rain(boolean is) {
        if (!isTold()) {
            return isAllowed(NO_SUCH);
        }
        if (now.rains() == is) {
            return isAllowed(NOT_SO);
        }
        now.keep();
        now.setRain(is);
        return isAllowed(NOT_REFUSED);
    }

    public boolean undo() {
        return isAllowed(now.takeBack() ? NOT_REFUSED : NOTHING);
    }

    public int mark() {
        if (!isTold()) {
            return refuse(NO_SUCH);
        }
        int number = now.addMark();
        return number < 0 ? refuse(NO_ROOM) : answer(number);
    }

    public boolean back(int mark) {
        return isAllowed(now.returnTo(mark) ? NOT_REFUSED : NO_SUCH);
    }

    // ---- what is told

    public int led(int i) throws NoSuchElementException {
        int ahead = i;
        for (int x = 0; x < road.people && ahead >= 0; x++) {
            if (now.of(x, Now.FORGED) == 0) {
                continue;
            }
            if (ahead == 0) {
                return x;
            }
            ahead--;
        }
        throw new NoSuchElementException();
    }

    public int size(int what) {
        switch (what) {
            case 0: return road.rainOf100;
            case 1: return road.tunes;
            case 2: return road.places;
            case 3: return road.roads;
            case 4: return road.gates;
            case 5: return road.inns;
            case 6: return road.people;
            case 7: return road.known;
            case 8: return road.heard;
            case 9: return now.rains() ? 1 : 0;
            case 10: return now.acts;
            case 11: return now.marks;
            case 12: return reader.fed;
            default: return NONE;
        }
    }

    public int trouble() {
        return refusal;
    }

    // ---- what the calls share

    private int refuse(int number) {
        refusal = number;
        return NONE;
    }

    private int answer(int value) {
        refusal = NOT_REFUSED;
        return value;
    }

    private boolean isAllowed(int number) {
        refusal = number;
        return number == NOT_REFUSED;
    }

    /** A ROAD has a place at least. */
    private boolean isTold() {
        return road.places > 0;
    }

    private boolean isTune(int t) {
        return t >= 0 && t < road.tunes;
    }

    private boolean areTwoTunes(int t, int u) {
        return isTune(t) && isTune(u) && t != u;
    }

    private boolean areTunes(int bits) {
        return bits >= 1 && bits < 1 << road.tunes;
    }

    private boolean isPlace(int p) {
        return p >= 0 && p < road.places;
    }

    private boolean areTwoPlaces(int p, int q) {
        return isPlace(p) && isPlace(q) && p != q;
    }

    private boolean isInn(int k) {
        return k >= 0 && k < road.inns;
    }

    private boolean isPerson(int x) {
        return x >= 0 && x < road.people;
    }

    private boolean isPlaceInRow(int k) {
        return isTold() && k >= 0 && k <= road.heard;
    }

    private static boolean isMany(int many) {
        return many >= 0 && many <= MOST_SOLD;
    }

    private int roadOf(int p, int q) {
        return areTwoPlaces(p, q) ? road.roadBetween(p, q) : NONE;
    }

    private int minutesTo(int x, int p) {
        ways.measure(road, p, now.voices(x), now.rains());
        return ways.minutesFrom(now.of(x, Now.PLACE));
    }

    private int reachBy(int x, int moreVoices, boolean rain) {
        return Ways.placesReached(road, now.of(x, Now.PLACE), now.voices(x) | moreVoices, rain);
    }

    /** False, with the TROUBLE, if the days can't be: for a person that there is. */
    private boolean letDaysPass(int x, int goal, int seed, int n) {
        if (seed < 0 || seed >= Days.MODULUS || n < 0 || n > MOST_DAYS) {
            return isAllowed(BAD_NUMBER);
        }
        if (road.roads == 0) {
            return isAllowed(NOTHING);
        }
        days.begin(now.of(x, Now.PLACE), goal, seed);
        days.pass(road, now.voices(x), n);
        return isAllowed(NOT_REFUSED);
    }

    /** What a ROAD tells; it stays as it was told, whatever the ACTS are. */
    private static final class Road {
        static final int TUNES = 6;
        static final int NOTES = 8;
        static final int PLACES = 7;
        static final int ROADS = 10;
        static final int INNS = 6;
        static final int PEOPLE = 4;
        static final int KNOWN = 8;
        static final int HEARD = 5;

        static final int INN_PLACE = 0;
        static final int INN_TUNE = 1;
        static final int INN_FORGES = 2;
        static final int INN_PRICE = 3;
        static final int INN_PARTS = 4;

        static final int KIND = 1;
        static final int DEAF = 2;
        static final int FORGOT = 3;

        int rainOf100;
        int tunes;
        int places;
        int roads;
        int gates;
        int inns;
        int people;
        int known;
        int heard;
        final int[] lengths = new int[TUNES];
        final int[] notes = new int[TUNES * NOTES];
        final int[] ends = new int[ROADS * 2];
        final int[] minutes = new int[ROADS];
        final int[] kinds = new int[ROADS];
        final int[] gateTunes = new int[ROADS];
        private final int[] between = new int[PLACES * PLACES];
        private final int[] innParts = new int[INNS * INN_PARTS];
        final int[] heardTunes = new int[HEARD];
        /** By which voices one may pass a road: a row for the dry, then one for the RAIN. */
        final int[] lifters = new int[2 * ROADS];
        /** A row as Now has it, of the people as they are told. */
        final int[] start = new int[Now.ROW];

        void clear() {
            rainOf100 = 0;
            tunes = 0;
            places = 0;
            roads = 0;
            gates = 0;
            inns = 0;
            people = 0;
            known = 0;
            heard = 0;
            Arrays.fill(kinds, NONE);
            Arrays.fill(between, NONE);
            Arrays.fill(start, 0);
        }

        int note(int t, int i) {
            return notes[t * NOTES + i];
        }

        int oneEnd(int r) {
            return ends[r * 2];
        }

        int otherEnd(int r) {
            return ends[r * 2 + 1];
        }

        int roadBetween(int p, int q) {
            return between[p * PLACES + q];
        }

        boolean hasGate(int r) {
            return kinds[r] >= 0;
        }

        int innPart(int k, int what) {
            return innParts[k * INN_PARTS + what];
        }

        int heardAsBits() {
            int bits = 0;
            for (int k = 0; k < heard; k++) {
                bits |= 1 << heardTunes[k];
            }
            return bits;
        }

        void addRoad(int p, int q, int time) {
            ends[roads * 2] = p;
            ends[roads * 2 + 1] = q;
            minutes[roads] = time;
            between[p * PLACES + q] = roads;
            between[q * PLACES + p] = roads;
            roads++;
        }

        void addGate(int r, int kind, int tune) {
            kinds[r] = kind;
            gateTunes[r] = tune;
            gates++;
        }

        void addInn(int place, int tune, boolean forges, int price) {
            int first = inns * INN_PARTS;
            innParts[first + INN_PLACE] = place;
            innParts[first + INN_TUNE] = tune;
            innParts[first + INN_FORGES] = forges ? 1 : 0;
            innParts[first + INN_PRICE] = price;
            inns++;
        }

        void addPerson(int place, int coins) {
            start[people * Now.PARTS + Now.PLACE] = place;
            start[people * Now.PARTS + Now.COINS] = coins;
            people++;
        }

        boolean knowsFromStart(int x, int t) {
            return (start[x * Now.PARTS + Now.KNOWN] >> t & 1) == 1;
        }

        void addKnown(int x, int t) {
            start[x * Now.PARTS + Now.KNOWN] |= 1 << t;
            known++;
        }
    }

    /** THE TAPE, and its reading from the left into a ROAD up to the first FAULT. */
    private static final class Reader {
        private static final int TAPE_ROOM = 1000;

        private static final int FORM = 1;
        private static final int UNTOLD = 2;
        private static final int AGAIN = 3;
        private static final int BOUNDS = 4;
        private static final int MANY = 5;
        private static final int LACKS = 6;
        private static final int NO_NOTES = 7;
        private static final int ROADLESS = 8;

        private static final int END = 0;
        private static final int WORD = 1;
        private static final int WHOLE = 2;
        private static final int SEMICOLON = 3;
        private static final int NO_TOKEN = 4;

        /** The WORDS with a meaning: first those that begin a LINE and are no names, by sorts of LINES. */
        private static final int TURNPIKE = 0;
        private static final int TUNE = 1;
        private static final int PLACE = 2;
        private static final int ROAD = 3;
        private static final int GATE = 4;
        private static final int INN = 5;
        private static final int PERSON = 6;
        private static final int KNOWS = 7;
        private static final int HEARD = 8;
        private static final int SORTS = 9;
        private static final int RAIN = 9;
        private static final int MINUTES = 10;
        private static final int STRICT = 11;
        private static final int KIND = 12;
        private static final int DEAF = 13;
        private static final int FORGOT = 14;
        private static final int SELLS = 15;
        private static final int FORGES = 16;
        private static final int PRICE = 17;
        private static final int AT = 18;
        private static final int COINS = 19;
        private static final int MEANINGS = 20;

        private static final int LETTERS = 8;
        private static final int DIGITS = 3;
        private static final int NAMES = Road.TUNES + Road.PLACES + Road.PEOPLE;

        /** By sorts; of gates as many as are told: a road has one at most, which is a FAULT of its own. */
        private static final int[] LINES_AT_MOST = {
            1, Road.TUNES, Road.PLACES, Road.ROADS, TAPE_ROOM, Road.INNS, Road.PEOPLE, Road.KNOWN, Road.HEARD
        };

        private final int[] tape = new int[TAPE_ROOM];
        private final long[] meanings = new long[MEANINGS];
        private final long[] names = new long[NAMES];
        private final int[] nameSorts = new int[NAMES];
        private final int[] nameNumbers = new int[NAMES];
        private final int[] lines = new int[SORTS];
        private Road road = new Road();
        private int named;
        private int end;
        private int at;
        private int after;
        private int token;
        private long word;
        private int meaning;
        private int whole;
        int fed;
        int fault;
        int faultAt = NONE;

        Reader() {
            meanings[TURNPIKE] = asNumber("turnpike");
            meanings[TUNE] = asNumber("tune");
            meanings[PLACE] = asNumber("place");
            meanings[ROAD] = asNumber("road");
            meanings[GATE] = asNumber("gate");
            meanings[INN] = asNumber("inn");
            meanings[PERSON] = asNumber("person");
            meanings[KNOWS] = asNumber("knows");
            meanings[HEARD] = asNumber("heard");
            meanings[RAIN] = asNumber("rain");
            meanings[MINUTES] = asNumber("minutes");
            meanings[STRICT] = asNumber("strict");
            meanings[KIND] = asNumber("kind");
            meanings[DEAF] = asNumber("deaf");
            meanings[FORGOT] = asNumber("forgot");
            meanings[SELLS] = asNumber("sells");
            meanings[FORGES] = asNumber("forges");
            meanings[PRICE] = asNumber("price");
            meanings[AT] = asNumber("at");
            meanings[COINS] = asNumber("coins");
        }

        boolean hasRoomFor(int bytes) {
            return fed + bytes <= TAPE_ROOM;
        }

        void append(int number) {
            for (int shift = 24; shift >= 0 && fed < TAPE_ROOM; shift -= 8) {
                tape[fed] = number >> shift & 255;
                fed++;
            }
        }

        /** The ROAD that was read; the old one is written over by the next reading. */
        Road exchange(Road old) {
            Road read = road;
            road = old;
            return read;
        }

        boolean read(int n) {
            begin(n);
            // A LINE takes a byte at least, so there are never more LINES than bytes.
            for (int line = 0; line <= end; line++) {
                if (!readLine()) {
                    return false;
                }
                if (token == END) {
                    return road.places > 0 || fail(LACKS);
                }
                if (token != SEMICOLON) {
                    return fail(FORM);
                }
                step();
            }
            return fail(FORM);
        }

        private void begin(int n) {
            road.clear();
            Arrays.fill(lines, 0);
            named = 0;
            end = Math.min(n, fed);
            fed = 0;
            after = 0;
            fault = 0;
            faultAt = NONE;
            step();
        }

        private boolean fail(int number) {
            fault = number;
            faultAt = at;
            return false;
        }

        private boolean readLine() {
            int sort = meaning;
            if (token != WORD || sort < 0 || sort >= SORTS) {
                return fail(FORM);
            }
            if (sort == TURNPIKE && lines[TURNPIKE] > 0) {
                return fail(AGAIN);
            }
            if (sort != TURNPIKE && lines[TURNPIKE] == 0) {
                return fail(LACKS);
            }
            if (lines[sort] >= LINES_AT_MOST[sort]) {
                return fail(MANY);
            }
            lines[sort]++;
            step();
            switch (sort) {
                case TURNPIKE: return readTurnpike();
                case TUNE: return readTune();
                case PLACE: return readPlace();
                case ROAD: return readRoad();
                case GATE: return readGate();
                case INN: return readInn();
                case PERSON: return readPerson();
                case KNOWS: return readKnows();
                default: return readHeard();
            }
        }

        private boolean readTurnpike() {
            if (!readWord(RAIN)) {
                return false;
            }
            int rain = readWhole(0, 100);
            road.rainOf100 = rain;
            return rain >= 0;
        }

        private boolean readTune() {
            if (!readNewName(TUNE)) {
                return false;
            }
            if (token != WORD) {
                return fail(FORM);
            }
            int notes = after - at;
            if (notes < 2) {
                return fail(NO_NOTES);
            }
            for (int i = 0; i < notes; i++) {
                if (tape[at + i] > 'g') {
                    return fail(NO_NOTES);
                }
                road.notes[road.tunes * Road.NOTES + i] = tape[at + i] - 'a';
            }
            road.lengths[road.tunes] = notes;
            road.tunes++;
            step();
            return true;
        }

        private boolean readPlace() {
            if (!readNewName(PLACE)) {
                return false;
            }
            road.places++;
            return true;
        }

        private boolean readRoad() {
            int one = readName(PLACE);
            int other = one < 0 ? NONE : findName(PLACE);
            if (other < 0) {
                return false;
            }
            if (other == one || road.roadBetween(one, other) >= 0) {
                return fail(AGAIN);
            }
            step();
            int minutes = readWord(MINUTES) ? readWhole(1, 99) : NONE;
            if (minutes < 0) {
                return false;
            }
            road.addRoad(one, other, minutes);
            return true;
        }

        private boolean readGate() {
            int one = readName(PLACE);
            int other = one < 0 ? NONE : findName(PLACE);
            if (other < 0) {
                return false;
            }
            if (other == one) {
                return fail(AGAIN);
            }
            int r = road.roadBetween(one, other);
            if (r < 0) {
                return fail(ROADLESS);
            }
            if (road.hasGate(r)) {
                return fail(AGAIN);
            }
            step();
            if (token != WORD || meaning < STRICT || meaning > FORGOT) {
                return fail(FORM);
            }
            int kind = meaning - STRICT;
            step();
            int tune = readName(TUNE);
            if (tune < 0) {
                return false;
            }
            road.addGate(r, kind, tune);
            return true;
        }

        private boolean readInn() {
            int place = readName(PLACE);
            if (place < 0) {
                return false;
            }
            boolean forges = isWord(FORGES);
            if (!forges && !isWord(SELLS)) {
                return fail(FORM);
            }
            step();
            int tune = readName(TUNE);
            int price = tune >= 0 && readWord(PRICE) ? readWhole(0, 99) : NONE;
            if (price < 0) {
                return false;
            }
            road.addInn(place, tune, forges, price);
            return true;
        }

        private boolean readPerson() {
            int place = readNewName(PERSON) && readWord(AT) ? readName(PLACE) : NONE;
            int coins = place >= 0 && readWord(COINS) ? readWhole(0, 999) : NONE;
            if (coins < 0) {
                return false;
            }
            road.addPerson(place, coins);
            return true;
        }

        private boolean readKnows() {
            int person = readName(PERSON);
            int tune = person < 0 ? NONE : findName(TUNE);
            if (tune < 0) {
                return false;
            }
            if (road.knowsFromStart(person, tune)) {
                return fail(AGAIN);
            }
            road.addKnown(person, tune);
            step();
            return true;
        }

        private boolean readHeard() {
            int tune = readName(TUNE);
            if (tune < 0) {
                return false;
            }
            road.heardTunes[road.heard] = tune;
            road.heard++;
            return true;
        }

        private boolean readWord(int due) {
            if (!isWord(due)) {
                return fail(FORM);
            }
            step();
            return true;
        }

        /** The number; NONE, with the FAULT, if it isn't one within the bounds. */
        private int readWhole(int least, int most) {
            int number = whole;
            if (token != WHOLE) {
                fail(FORM);
                return NONE;
            }
            if (number < least || number > most) {
                fail(BOUNDS);
                return NONE;
            }
            step();
            return number;
        }

        private boolean readNewName(int sort) {
            if (!isName()) {
                return fail(FORM);
            }
            if (placeOfWord(names, named) >= 0) {
                return fail(AGAIN);
            }
            names[named] = word;
            nameSorts[named] = sort;
            nameNumbers[named] = lines[sort] - 1;
            named++;
            step();
            return true;
        }

        private int readName(int sort) {
            int number = findName(sort);
            if (number >= 0) {
                step();
            }
            return number;
        }

        /** The number of the name that stands here; NONE, with the FAULT, if it isn't one of that sort. */
        private int findName(int sort) {
            if (!isName()) {
                fail(FORM);
                return NONE;
            }
            int name = placeOfWord(names, named);
            if (name < 0 || nameSorts[name] != sort) {
                fail(UNTOLD);
                return NONE;
            }
            return nameNumbers[name];
        }

        private boolean isWord(int due) {
            return token == WORD && meaning == due;
        }

        private boolean isName() {
            return token == WORD && (meaning < 0 || meaning >= SORTS);
        }

        private void step() {
            at = after;
            while (at < end && tape[at] == ' ') {
                at++;
            }
            after = at;
            if (at >= end) {
                token = END;
            } else if (tape[at] >= 'a' && tape[at] <= 'z') {
                takeLetters();
                meaning = placeOfWord(meanings, MEANINGS);
            } else if (tape[at] >= '0' && tape[at] <= '9') {
                takeDigits();
            } else {
                token = tape[at] == ';' ? SEMICOLON : NO_TOKEN;
                after++;
            }
        }

        private void takeLetters() {
            word = 0;
            while (after < end && tape[after] >= 'a' && tape[after] <= 'z') {
                word = word * 32 + (tape[after] - 'a' + 1);
                after++;
            }
            token = after - at <= LETTERS ? WORD : NO_TOKEN;
        }

        private void takeDigits() {
            whole = 0;
            while (after < end && tape[after] >= '0' && tape[after] <= '9') {
                whole = whole * 10 + (tape[after] - '0');
                after++;
            }
            token = after - at <= DIGITS ? WHOLE : NO_TOKEN;
        }

        private int placeOfWord(long[] list, int many) {
            for (int i = 0; i < many; i++) {
                if (list[i] == word) {
                    return i;
                }
            }
            return NONE;
        }

        /** As takeLetters has it: no two WORDS have one number. */
        private static long asNumber(String text) {
            long number = 0;
            for (int i = 0; i < text.length(); i++) {
                number = number * 32 + (text.charAt(i) - 'a' + 1);
            }
            return number;
        }
    }

    /** How all people are, and the weather; what it was ahead of each ACT, and by each MARK. */
    private static final class Now {
        static final int PLACE = 0;
        static final int COINS = 1;
        static final int KNOWN = 2;
        static final int FORGED = 3;
        static final int MINUTES = 4;
        static final int PARTS = 5;
        static final int ROW = Road.PEOPLE * PARTS + 1;

        private static final int RAIN = ROW - 1;
        private static final int ACTS_KEPT = 16;
        private static final int MARKS_KEPT = 3;

        private final int[] row = new int[ROW];
        private final int[] aheadOfActs = new int[ACTS_KEPT * ROW];
        private final int[] byMarks = new int[MARKS_KEPT * ROW];
        private int nextAct;
        int acts;
        int marks;

        void begin(int[] start) {
            System.arraycopy(start, 0, row, 0, ROW);
            acts = 0;
            marks = 0;
        }

        int of(int x, int what) {
            return row[x * PARTS + what];
        }

        void set(int x, int what, int value) {
            row[x * PARTS + what] = value;
        }

        boolean rains() {
            return row[RAIN] == 1;
        }

        void setRain(boolean is) {
            row[RAIN] = is ? 1 : 0;
        }

        int voices(int x) {
            return of(x, KNOWN) | of(x, FORGED) << Road.TUNES | Gates.SILENT;
        }

        /** Ahead of an ACT; the oldest is written over when all the room is taken. */
        void keep() {
            System.arraycopy(row, 0, aheadOfActs, nextAct * ROW, ROW);
            nextAct = (nextAct + 1) % ACTS_KEPT;
            acts = Math.min(acts + 1, ACTS_KEPT);
        }

        boolean takeBack() {
            if (acts == 0) {
                return false;
            }
            acts--;
            nextAct = (nextAct + ACTS_KEPT - 1) % ACTS_KEPT;
            System.arraycopy(aheadOfActs, nextAct * ROW, row, 0, ROW);
            return true;
        }

        int addMark() {
            if (marks >= MARKS_KEPT) {
                return NONE;
            }
            System.arraycopy(row, 0, byMarks, marks * ROW, ROW);
            marks++;
            return marks - 1;
        }

        boolean returnTo(int mark) {
            if (mark < 0 || mark >= marks) {
                return false;
            }
            System.arraycopy(byMarks, mark * ROW, row, 0, ROW);
            acts = 0;
            return true;
        }
    }

    /**
     * Which voices lift which gate. A voice is a bit: a tune, a FORGED tune, or SILENT, which everybody has
     * and to which a road without a gate is open.
     */
    private static final class Gates {
        static final int SILENT = 1 << 2 * Road.TUNES;

        private static final int A = 0;
        private static final int G = 6;
        private static final int ANY_VOICE = -1;

        static int voice(int t, boolean forged) {
            return 1 << (forged ? Road.TUNES + t : t);
        }

        static int noteSung(Road road, int t, int i, boolean forged, boolean rain) {
            int note = road.note(t, i);
            if (i != road.lengths[t] - 1) {
                return note;
            }
            if (forged) {
                note += note == G ? -1 : 1;
            }
            return rain && note != A ? note - 1 : note;
        }

        static void settle(Road road) {
            for (int r = 0; r < road.roads; r++) {
                road.lifters[r] = liftersOf(road, r, false);
                road.lifters[Road.ROADS + r] = liftersOf(road, r, true);
            }
        }

        static boolean isOpen(Road road, int r, int voices, boolean rain) {
            return (road.lifters[rain ? Road.ROADS + r : r] & voices) != 0;
        }

        static int gatesOpenTo(Road road, int voice, boolean rain) {
            int many = 0;
            for (int r = 0; r < road.roads; r++) {
                if (road.hasGate(r) && isOpen(road, r, voice, rain)) {
                    many++;
                }
            }
            return many;
        }

        private static int liftersOf(Road road, int r, boolean rain) {
            if (!road.hasGate(r)) {
                return ANY_VOICE;
            }
            int voices = 0;
            for (int t = 0; t < road.tunes; t++) {
                if (isLiftedBy(road, r, t, false, rain)) {
                    voices |= voice(t, false);
                }
                if (isLiftedBy(road, r, t, true, rain)) {
                    voices |= voice(t, true);
                }
            }
            return voices;
        }

        private static boolean isLiftedBy(Road road, int r, int t, boolean forged, boolean rain) {
            int kind = road.kinds[r];
            if (kind == Road.FORGOT) {
                return true;
            }
            int own = road.gateTunes[r];
            if (road.lengths[own] != road.lengths[t]) {
                return false;
            }
            if (kind == Road.DEAF) {
                return true;
            }
            int unlike = 0;
            for (int i = 0; i < road.lengths[t]; i++) {
                if (road.note(own, i) != noteSung(road, t, i, forged, rain)) {
                    unlike++;
                }
            }
            return unlike <= (kind == Road.KIND ? 1 : 0);
        }
    }

    /** Where one comes with his voices, and in how many minutes. */
    private static final class Ways {
        /** More minutes than any WAY has. */
        static final int FAR = 1_000_000;

        private final int[] left = new int[Road.PLACES];
        private int voices;
        private boolean rain;

        static int placesReached(Road road, int from, int with, boolean inRain) {
            int reached = 1 << from;
            for (int round = 0; round < road.places; round++) {
                int before = reached;
                for (int r = 0; r < road.roads; r++) {
                    int both = 1 << road.oneEnd(r) | 1 << road.otherEnd(r);
                    if ((reached & both) != 0 && Gates.isOpen(road, r, with, inRain)) {
                        reached |= both;
                    }
                }
                if (reached == before) {
                    return reached;
                }
            }
            return reached;
        }

        /** Measures from the goal, so that the first WAY can then be gone place by place. */
        void measure(Road road, int goal, int with, boolean inRain) {
            voices = with;
            rain = inRain;
            Arrays.fill(left, FAR);
            left[goal] = 0;
            for (int round = 0; round < road.places; round++) {
                for (int r = 0; r < road.roads; r++) {
                    if (Gates.isOpen(road, r, voices, rain)) {
                        shorten(road.oneEnd(r), road.otherEnd(r), road.minutes[r]);
                        shorten(road.otherEnd(r), road.oneEnd(r), road.minutes[r]);
                    }
                }
            }
        }

        int minutesFrom(int place) {
            return left[place];
        }

        /** The i-th place of the WAY that was measured; NONE if it has none such. */
        int placeOn(Road road, int from, int goal, int i) {
            if (left[from] >= FAR || i < 0 || i >= road.places) {
                return NONE;
            }
            int place = from;
            for (int step = 0; step < i; step++) {
                if (place < 0 || place == goal) {
                    return NONE;
                }
                place = placeBehind(road, place);
            }
            return place;
        }

        private void shorten(int from, int by, int minutes) {
            if (left[by] + minutes < left[from]) {
                left[from] = left[by] + minutes;
            }
        }

        private int placeBehind(Road road, int place) {
            for (int q = 0; q < road.places; q++) {
                int r = road.roadBetween(place, q);
                if (r >= 0 && road.minutes[r] + left[q] == left[place] && Gates.isOpen(road, r, voices, rain)) {
                    return q;
                }
            }
            return NONE;
        }
    }

    /** Sets of inns, as bits, that one can buy at one behind the other, and where he comes by each. */
    private static final class Trips {
        private static final int SETS = 1 << Road.INNS;

        private final int[] voices = new int[SETS];
        private final int[] coins = new int[SETS];
        /** No place for a set that can't be. */
        private final int[] places = new int[SETS];

        void plan(Road road, Now now, int x) {
            int from = now.of(x, Now.PLACE);
            voices[0] = now.voices(x);
            coins[0] = 0;
            places[0] = Ways.placesReached(road, from, voices[0], now.rains());
            for (int set = 1; set < 1 << road.inns; set++) {
                int inn = Integer.numberOfTrailingZeros(set);
                int fewer = set & set - 1;
                boolean forged = road.innPart(inn, Road.INN_FORGES) == 1;
                voices[set] = voices[fewer] | Gates.voice(road.innPart(inn, Road.INN_TUNE), forged);
                coins[set] = coins[fewer] + road.innPart(inn, Road.INN_PRICE);
                boolean can = coins[set] <= now.of(x, Now.COINS) && hasLastInn(road, set);
                places[set] = can ? Ways.placesReached(road, from, voices[set], now.rains()) : 0;
            }
        }

        /** The best set of those that were planned to a place; NOT_THERE if there is none. */
        int bestSet(Road road, int place) {
            int best = NOT_THERE;
            for (int set = 0; set < 1 << road.inns; set++) {
                if ((places[set] >> place & 1) == 1 && (best < 0 || isBetter(set, best))) {
                    best = set;
                }
            }
            return best;
        }

        int coinsOf(int set) {
            return coins[set];
        }

        int placesOfAll(Road road) {
            int all = 0;
            for (int set = 0; set < 1 << road.inns; set++) {
                all |= places[set];
            }
            return all;
        }

        /** One inn of the set can be come to behind all others of it. */
        private boolean hasLastInn(Road road, int set) {
            for (int k = 0; k < road.inns; k++) {
                if ((set >> k & 1) == 1 && (places[set ^ 1 << k] >> road.innPart(k, Road.INN_PLACE) & 1) == 1) {
                    return true;
                }
            }
            return false;
        }

        private boolean isBetter(int set, int than) {
            if (coins[set] != coins[than]) {
                return coins[set] < coins[than];
            }
            return Integer.bitCount(set) < Integer.bitCount(than);
        }
    }

    /** The SONG of some tunes: which tune begins next, for each set of those begun and the last of them. */
    private static final class Songs {
        private static final int SETS = 1 << Road.TUNES;
        private static final int NO_TUNE = Road.TUNES;
        private static final int LASTS = Road.TUNES + 1;

        private final int[] overlaps = new int[LASTS * Road.TUNES];
        private final int[] left = new int[SETS * LASTS];
        private final int[] next = new int[SETS * LASTS];
        private int composed;
        private int needed;

        static int notesInCommon(Road road, int t, int u) {
            for (int many = Math.min(road.lengths[t], road.lengths[u]); many > 0; many--) {
                if (isAlike(road, t, road.lengths[t] - many, u, many)) {
                    return many;
                }
            }
            return 0;
        }

        /** The notes of a tune from one on are the first ones of another tune. */
        private static boolean isAlike(Road road, int t, int from, int u, int many) {
            for (int i = 0; i < many; i++) {
                if (road.note(t, from + i) != road.note(u, i)) {
                    return false;
                }
            }
            return true;
        }

        void forget() {
            composed = 0;
        }

        /** The tunes never change in a ROAD, so the latest SONG is kept. */
        void compose(Road road, int tunes) {
            if (composed == tunes) {
                return;
            }
            composed = tunes;
            needed = withoutInner(road, tunes);
            findOverlaps(road);
            // Downwards each set comes behind all that have more tunes.
            for (int begun = needed; begun > 0; begun--) {
                for (int last = 0; last < road.tunes; last++) {
                    if ((begun & ~needed) == 0 && (begun >> last & 1) == 1) {
                        chooseNext(road, begun, last);
                    }
                }
            }
            chooseNext(road, 0, NO_TUNE);
        }

        int notes() {
            return left[NO_TUNE];
        }

        int noteAt(Road road, int i) {
            return noteBehind(road, 0, NO_TUNE, next[NO_TUNE], i);
        }

        /** A tune inside another one is sung with it: without it overlaps alone tell the shortest row. */
        private static int withoutInner(Road road, int tunes) {
            int kept = tunes;
            for (int t = 0; t < road.tunes; t++) {
                for (int u = 0; u < road.tunes; u++) {
                    if (t != u && (kept >> t & 1) == 1 && (kept >> u & 1) == 1 && stands(road, t, u)) {
                        kept ^= 1 << t;
                    }
                }
            }
            return kept;
        }

        private static boolean stands(Road road, int inner, int outer) {
            for (int from = 0; from + road.lengths[inner] <= road.lengths[outer]; from++) {
                if (isAlike(road, outer, from, inner, road.lengths[inner])) {
                    return true;
                }
            }
            return false;
        }

        private void findOverlaps(Road road) {
            for (int t = 0; t < road.tunes; t++) {
                for (int u = 0; u < road.tunes; u++) {
                    overlaps[t * Road.TUNES + u] = t == u ? 0 : notesInCommon(road, t, u);
                }
            }
        }

        private void chooseNext(Road road, int begun, int last) {
            int state = begun * LASTS + last;
            left[state] = 0;
            next[state] = NONE;
            for (int t = 0; t < road.tunes; t++) {
                if (((needed & ~begun) >> t & 1) == 0) {
                    continue;
                }
                int many = ownNotes(road, last, t) + left[(begun | 1 << t) * LASTS + t];
                boolean first = next[state] < 0 || many < left[state];
                if (first || many == left[state] && isAhead(road, begun, last, t, many)) {
                    left[state] = many;
                    next[state] = t;
                }
            }
        }

        private int ownNotes(Road road, int last, int t) {
            return road.lengths[t] - overlaps[last * Road.TUNES + t];
        }

        /** By notes, of the two rows with a tune next and with the one that was chosen so far. */
        private boolean isAhead(Road road, int begun, int last, int t, int many) {
            int chosen = next[begun * LASTS + last];
            for (int i = 0; i < many; i++) {
                int one = noteBehind(road, begun, last, t, i);
                int other = noteBehind(road, begun, last, chosen, i);
                if (one != other) {
                    return one < other;
                }
            }
            return false;
        }

        /** The i-th note that is sung behind those begun, with a tune next and then as it was chosen. */
        private int noteBehind(Road road, int begun, int last, int tune, int i) {
            int sets = begun;
            int before = last;
            int t = tune;
            int ahead = i;
            for (int step = 0; step < Road.TUNES && t >= 0; step++) {
                int own = ownNotes(road, before, t);
                if (ahead < own) {
                    return road.note(t, road.lengths[t] - own + ahead);
                }
                ahead -= own;
                sets |= 1 << t;
                before = t;
                t = next[sets * LASTS + before];
            }
            return NONE;
        }
    }

    /** Tunes against tunes: which are alike, which GO TOGETHER, and the first of the most PAIRS. */
    private static final class Pairs {
        private final int[] most = new int[1 << Road.TUNES];
        private final int[] mates = new int[Road.TUNES];
        final int[] partners = new int[Road.TUNES];

        static boolean goTogether(Road road, int t, int u) {
            return road.lengths[t] == road.lengths[u] && alikeNotes(road, t, u) == 0;
        }

        static int mostAlike(Road road) {
            int best = NOT_THERE;
            int mostNotes = NONE;
            for (int t = 0; t < road.tunes; t++) {
                for (int u = t + 1; u < road.tunes; u++) {
                    if (road.lengths[t] == road.lengths[u] && alikeNotes(road, t, u) > mostNotes) {
                        mostNotes = alikeNotes(road, t, u);
                        best = 10 * t + u;
                    }
                }
            }
            return best;
        }

        private static int alikeNotes(Road road, int t, int u) {
            int alike = 0;
            for (int i = 0; i < road.lengths[t]; i++) {
                if (road.note(t, i) == road.note(u, i)) {
                    alike++;
                }
            }
            return alike;
        }

        void settle(Road road) {
            for (int t = 0; t < road.tunes; t++) {
                mates[t] = 0;
                for (int u = 0; u < road.tunes; u++) {
                    mates[t] |= goTogether(road, t, u) ? 1 << u : 0;
                }
            }
            most[0] = 0;
            for (int set = 1; set < 1 << road.tunes; set++) {
                most[set] = mostOf(road, set);
            }
            takeFirst(road);
        }

        int howMany(Road road) {
            return most[(1 << road.tunes) - 1];
        }

        private int mostOf(Road road, int set) {
            int t = Integer.numberOfTrailingZeros(set);
            int others = set & set - 1;
            int best = most[others];
            for (int u = t + 1; u < road.tunes; u++) {
                if ((others & mates[t] & 1 << u) != 0) {
                    best = Math.max(best, 1 + most[others ^ 1 << u]);
                }
            }
            return best;
        }

        private void takeFirst(Road road) {
            Arrays.fill(partners, NOT_THERE);
            int set = (1 << road.tunes) - 1;
            for (int t = 0; t < road.tunes; t++) {
                if ((set >> t & 1) == 0) {
                    continue;
                }
                int u = firstMate(road, t, set);
                set ^= 1 << t;
                if (u >= 0) {
                    partners[t] = u;
                    partners[u] = t;
                    set ^= 1 << u;
                }
            }
        }

        /** The least one with which as many PAIRS can be as at most; NONE if the tune must be alone. */
        private int firstMate(Road road, int t, int set) {
            int others = set ^ 1 << t;
            for (int u = t + 1; u < road.tunes; u++) {
                if ((others & mates[t] & 1 << u) != 0 && 1 + most[others ^ 1 << u] == most[set]) {
                    return u;
                }
            }
            return NONE;
        }
    }

    /** The rows of places that fit what was heard, counted by their beginnings and their ends. */
    private static final class Stranger {
        private final int[] beginnings = new int[(Road.HEARD + 1) * Road.PLACES];
        private final int[] endings = new int[(Road.HEARD + 1) * Road.PLACES];

        void settle(Road road) {
            Arrays.fill(beginnings, 0);
            Arrays.fill(endings, 0);
            for (int p = 0; p < road.places; p++) {
                beginnings[p] = 1;
                endings[road.heard * Road.PLACES + p] = 1;
            }
            for (int k = 0; k < road.heard; k++) {
                carry(road, road.heardTunes[k], beginnings, k, k + 1);
            }
            for (int k = road.heard - 1; k >= 0; k--) {
                carry(road, road.heardTunes[k], endings, k + 1, k);
            }
        }

        int allRows(Road road) {
            int all = 0;
            for (int p = 0; p < road.places; p++) {
                all += rowsWith(0, p);
            }
            return all;
        }

        int placesAt(Road road, int k) {
            int places = 0;
            for (int p = 0; p < road.places; p++) {
                places |= rowsWith(k, p) > 0 ? 1 << p : 0;
            }
            return places;
        }

        /** How many rows are left at most if the k-th place is told. */
        int mostLeft(Road road, int k) {
            int most = 0;
            for (int p = 0; p < road.places; p++) {
                most = Math.max(most, rowsWith(k, p));
            }
            return most;
        }

        int whatToAsk(Road road) {
            if (allRows(road) == 0) {
                return NOT_THERE;
            }
            int best = 0;
            for (int k = 1; k <= road.heard; k++) {
                if (mostLeft(road, k) < mostLeft(road, best)) {
                    best = k;
                }
            }
            return best;
        }

        private int rowsWith(int k, int p) {
            return beginnings[k * Road.PLACES + p] * endings[k * Road.PLACES + p];
        }

        private static void carry(Road road, int tune, int[] counts, int from, int to) {
            int old = from * Road.PLACES;
            int fresh = to * Road.PLACES;
            for (int r = 0; r < road.roads; r++) {
                if (road.hasGate(r) && road.gateTunes[r] == tune) {
                    counts[fresh + road.otherEnd(r)] += counts[old + road.oneEnd(r)];
                    counts[fresh + road.oneEnd(r)] += counts[old + road.otherEnd(r)];
                }
            }
        }
    }

    /** TWO INNS and their RESTS. */
    private static final class TwoInns {
        private static final int PRICES = 10;
        private static final int COST = 2;

        static boolean isPrice(int price) {
            return price >= 0 && price < PRICES;
        }

        static int share(int many, int own, int others) {
            if (own > others) {
                return 0;
            }
            int buyers = own == others ? many / 2 : many;
            return buyers * (own - COST);
        }

        static int countRests(int many) {
            int count = 0;
            for (int pair = 0; pair < PRICES * PRICES; pair++) {
                if (isRest(many, pair / PRICES, pair % PRICES)) {
                    count++;
                }
            }
            return count;
        }

        /** A pair is 10 times the one's price and the other one's, so the pairs come in their order. */
        static int firstRest(int many) {
            for (int pair = 0; pair < PRICES * PRICES; pair++) {
                if (isRest(many, pair / PRICES, pair % PRICES)) {
                    return pair;
                }
            }
            return NOT_THERE;
        }

        private static boolean isRest(int many, int one, int other) {
            int ones = share(many, one, other);
            int others = share(many, other, one);
            for (int price = 0; price < PRICES; price++) {
                if (share(many, price, other) > ones || share(many, price, one) > others) {
                    return false;
                }
            }
            return true;
        }
    }

    /** DAYS by draws for one: they change nothing but what is told of them here. */
    private static final class Days {
        static final int MODULUS = 65_537;

        private int seed;
        private int goal;
        int place;
        int went;
        int firstAtGoal;

        void begin(int from, int to, int firstSeed) {
            place = from;
            goal = to;
            seed = firstSeed;
            went = 0;
            firstAtGoal = 0;
        }

        void pass(Road road, int voices, int n) {
            for (int day = 1; day <= n && road.roads > 0; day++) {
                boolean rain = draw() % 100 < road.rainOf100;
                int r = draw() % road.roads;
                if (Gates.isOpen(road, r, voices, rain)) {
                    walk(road.oneEnd(r), road.otherEnd(r));
                }
                if (place == goal && firstAtGoal == 0) {
                    firstAtGoal = day;
                }
            }
        }

        private int draw() {
            seed = (75 * seed + 74) % MODULUS;
            return seed;
        }

        private void walk(int one, int other) {
            if (place == one) {
                place = other;
                went++;
            } else if (place == other) {
                place = one;
                went++;
            }
        }
    }
}
