/** Two towns on one hill that steal each other's roofs by night, as ../shared/DOC.md tells it. */
public final class RoofWar {
    public static final int BAD = -1000000001;
    public static final int NO = -1000000002;
    public static final int FULL = -1000000003;
    public static final int NONE = -1000000005;
    public static final int NOTHING = -1000000011;
    public static final int KIND = -1000000012;
    public static final int INDEX = -1000000013;
    public static final int SIZE = -1000000014;

    private static final int TOWNS = 2;
    private static final int HOUSES = 12;
    private static final int HOUSES_OF_A_TOWN = 6;
    private static final int MOST_ROOFS = 12;
    private static final int MOST_SIZED = 9;
    private static final int MOST_LEAK = 99;
    private static final int MOST_PEOPLE = 9;
    private static final int MOST_WATCH = 100;
    private static final int MOST_STRENGTH = 99;
    private static final int MOST_RAIN = 100;
    private static final int LAST_NIGHT = 9999;
    private static final int MOST_TEXTS = 14;
    private static final int MOST_BYTES = 96;
    private static final int SHEETS = 4;
    private static final int MOST_PLACES = 24;
    private static final int MOST_OF_FLOATS = 99999;
    private static final int SLOTS = 5;
    private static final int MOST_WAITING = 60;

    private static final int SPITE_KEY = 0;
    private static final int FEE_KEY = 1;
    private static final int FINE_KEY = 2;
    private static final int KEYS = 3;

    private final Laws laws;
    private final Hill now;
    private final Hill image;
    private final Hill thought;
    private boolean kept;
    private final Fitting fitting;
    private final Tape tape;
    private final Reader reader;
    private final Row[] rows;
    private final Slot[] slots;
    private final int[] waiting;
    private int waits;
    private final int[] hits;

    public RoofWar() {
        laws = new Laws();
        now = new Hill(laws);
        image = new Hill(laws);
        thought = new Hill(laws);
        kept = false;
        fitting = new Fitting();
        tape = new Tape();
        reader = new Reader(tape);
        rows = new Row[SHEETS];
        for (int i = 0; i < SHEETS; i++) {
            rows[i] = new Row();
        }
        slots = new Slot[SLOTS];
        for (int i = 0; i < SLOTS; i++) {
            slots[i] = new Slot();
        }
        waiting = new int[MOST_WAITING];
        waits = 0;
        hits = new int[MOST_ROOFS];
    }

    // ---- roofs, houses

    public int roof(int kind, int size, int leak, int house) {
        if (!isKind(kind) || !within(size, 1, MOST_SIZED) || !within(leak, 0, MOST_LEAK) || !isHouse(house)) {
            return BAD;
        }
        if (now.roofOver[house] != NONE) {
            return NO;
        }
        if (now.roofs >= MOST_ROOFS) {
            return FULL;
        }
        return now.build(kind, size, leak, house);
    }

    public int told(int roof, int what) {
        if (!isRoof(roof)) {
            return BAD;
        }
        int kind = now.kinds[roof];
        int size = now.sizes[roof];
        switch (what) {
            case 0: return kind;
            case 1: return size;
            case 2: return now.leaks[roof];
            case 3: return now.over[roof];
            case 4: return Kinds.weighs(kind, size);
            case 5: return Kinds.covers(kind, size);
            case 6: return Kinds.drips(kind, now.leaks[roof]);
            case 7: return Kinds.worth(kind, size);
            default: return BAD;
        }
    }

    public int as(int roof, int kind) {
        if (!isRoof(roof) || !isKind(kind)) {
            return BAD;
        }
        return Kinds.isOne(now.kinds[roof], kind) ? now.over[roof] : KIND;
    }

    public int turns(int roof, int kind) {
        if (!isRoof(roof) || !isKind(kind)) {
            return BAD;
        }
        int was = now.kinds[roof];
        now.kinds[roof] = kind;
        return was;
    }

    public int set(int roof, int what, int v) {
        if (!isRoof(roof)) {
            return BAD;
        }
        if (what == 1 && within(v, 1, MOST_SIZED)) {
            int was = now.sizes[roof];
            now.sizes[roof] = v;
            return was;
        }
        if (what == 2 && within(v, 0, MOST_LEAK)) {
            int was = now.leaks[roof];
            now.leaks[roof] = v;
            return was;
        }
        return BAD;
    }

    public int moves(int roof, int house) {
        if (!isRoof(roof) || !isHouse(house)) {
            return BAD;
        }
        if (now.roofOver[house] != NONE) {
            return NO;
        }
        int was = now.over[roof];
        now.put(roof, house);
        return was;
    }

    public int house(int house, int what) {
        if (!isHouse(house)) {
            return BAD;
        }
        switch (what) {
            case 0: return now.people[house];
            case 1: return now.watches[house];
            case 2: return now.roofOver[house];
            case 3: return now.dryIn(house);
            default: return BAD;
        }
    }

    public int lodges(int house, int what, int v) {
        if (!isHouse(house)) {
            return BAD;
        }
        if (what == 0 && within(v, 0, MOST_PEOPLE)) {
            int was = now.people[house];
            now.people[house] = v;
            return was;
        }
        if (what == 1 && within(v, 0, MOST_WATCH)) {
            int was = now.watches[house];
            now.watches[house] = v;
            return was;
        }
        return BAD;
    }

    public int rule(int what, int v) {
        if ((what == 0 || what == 1) && within(v, 0, MOST_STRENGTH)) {
            int was = now.strengths[what];
            now.strengths[what] = v;
            return was;
        }
        if (what == 2 && within(v, 0, MOST_RAIN)) {
            int was = now.rain;
            now.rain = v;
            return was;
        }
        return BAD;
    }

    public int deal(int n) {
        if (!within(n, 1, MOST_ROOFS)) {
            return BAD;
        }
        int come = Math.min(n, MOST_ROOFS - now.roofs);
        for (int i = 0; i < come; i++) {
            now.drawRoof();
        }
        return come;
    }

    public int seed(int v) {
        int was = now.z;
        now.z = v;
        return was;
    }

    // ---- nights

    public int nights(int n) {
        if (!within(n, 1, 100)) {
            return BAD;
        }
        int before = now.stolen;
        now.pass(Math.min(n, LAST_NIGHT - now.night));
        return now.stolen - before;
    }

    public int hill(int what) {
        switch (what) {
            case 0: return now.stolen;
            case 1: return now.caught;
            case 2: return now.wet;
            case 3: return now.dryOf(0);
            case 4: return now.dryOf(1);
            case 5: return now.leakOfAll();
            default: return BAD;
        }
    }

    public int loot(int town, int what) {
        if (!isTown(town) || !within(what, 0, 1)) {
            return BAD;
        }
        return what == 0 ? now.mayCarry(town) : now.homeOf(town);
    }

    public int steals(int roof) {
        if (!isRoof(roof)) {
            return BAD;
        }
        int thief = otherTown(townOf(now.over[roof]));
        int home = now.homeOf(thief);
        if (home == NONE || !inSet(now.mayCarry(thief), roof)) {
            return NO;
        }
        now.carry(roof, home);
        return home;
    }

    public int fits(int town, int what) {
        if (!isTown(town) || !within(what, -1, HOUSES_OF_A_TOWN - 1)) {
            return BAD;
        }
        fitting.think(now, town);
        return what == -1 ? fitting.dry() : fitting.roofFor(what);
    }

    public int prize(int town, int what) {
        if (!isTown(town) || !within(what, 0, 1)) {
            return BAD;
        }
        int home = now.homeOf(town);
        int set = now.mayCarry(town);
        if (home == NONE || set == 0) {
            return NONE;
        }
        int lead = now.dryOf(town) - now.dryOf(otherTown(town));
        int best = NONE;
        int most = 0;
        for (int r = 0; r < now.roofs; r++) {
            if (inSet(set, r)) {
                int more = lead + now.dryWere(r, home) + now.dryIn(now.over[r]);
                if (best == NONE || more > most) {
                    best = r;
                    most = more;
                }
            }
        }
        return what == 0 ? best : most;
    }

    // ---- what will be

    public int behind(int n, int what) {
        if (!within(n, 0, 100) || !within(what, 0, 4 + now.roofs)) {
            return BAD;
        }
        thought.becomeLike(now);
        thought.pass(n);
        switch (what) {
            case 0: return thought.stolen;
            case 1: return thought.caught;
            case 2: return thought.wet;
            case 3: return thought.dryOf(0);
            case 4: return thought.dryOf(1);
            default: return thought.over[what - 5];
        }
    }

    public int gone(int roof) {
        if (!isRoof(roof)) {
            return BAD;
        }
        int town = townOf(now.over[roof]);
        thought.becomeLike(now);
        for (int n = 1; n <= 200; n++) {
            thought.pass(1);
            if (townOf(thought.over[roof]) != town) {
                return n;
            }
        }
        return NONE;
    }

    public int guard(int town, int n, int what) {
        if (!isTown(town) || !within(n, 1, 60) || !within(what, 0, 1)) {
            return BAD;
        }
        int first = firstHouse(town);
        int best = first;
        int most = -1;
        for (int h = first; h < first + HOUSES_OF_A_TOWN; h++) {
            thought.becomeLike(now);
            thought.watches[h] = MOST_WATCH;
            thought.pass(n);
            int dry = thought.dryOf(town);
            if (dry > most) {
                best = h;
                most = dry;
            }
        }
        return what == 0 ? best : most;
    }

    public int becomes(int roof, int n, int what) {
        if (!isRoof(roof) || !within(n, 1, 60) || !within(what, 0, 1)) {
            return BAD;
        }
        int town = townOf(now.over[roof]);
        int best = 0;
        int most = -1;
        for (int kind = 0; kind < Kinds.MANY; kind++) {
            thought.becomeLike(now);
            thought.kinds[roof] = kind;
            thought.pass(n);
            int dry = thought.dryOf(town);
            if (dry > most) {
                best = kind;
                most = dry;
            }
        }
        return what == 0 ? best : most;
    }

    public int like(int sheet, int what) {
        if (!isSheet(sheet) || !within(what, 0, 1)) {
            return BAD;
        }
        Row row = rows[sheet];
        if (row.isMissing()) {
            return NOTHING;
        }
        if (now.roofs == 0) {
            return NONE;
        }
        countHits(row);
        int best = 0;
        for (int r = 1; r < now.roofs; r++) {
            if (hits[r] > hits[best]) {
                best = r;
            }
        }
        return what == 0 ? best : hits[best];
    }

    public int fee() {
        Law law = laws.counting(FEE_KEY, now.texts);
        return law == null ? now.stolen : laws.workOut(law, now.stolen, now.wet, 0);
    }

    public int fine(int roof) {
        if (!isRoof(roof)) {
            return BAD;
        }
        Law law = laws.counting(FINE_KEY, now.texts);
        return law == null ? now.leaks[roof] : laws.workOut(law, now.leaks[roof], now.sizes[roof], 0);
    }

    // ---- texts

    public int feed(int a, int b, int c) {
        if (tape.length + 12 > MOST_BYTES) {
            return FULL;
        }
        tape.add(a);
        tape.add(b);
        tape.add(c);
        return tape.length;
    }

    public int trim(int n) {
        if (!within(n, 0, tape.length)) {
            return BAD;
        }
        tape.length = n;
        return n;
    }

    public int text() {
        Law law = laws.all[now.texts];
        int fault = reader.faultIn(law);
        tape.length = 0;
        if (fault != Reader.NO_FAULT) {
            return -100 - fault;
        }
        if (now.texts >= MOST_TEXTS) {
            return FULL;
        }
        now.texts++;
        return now.texts - 1;
    }

    public int textTold(int text, int what) {
        if (!within(text, 0, now.texts - 1) || !within(what, 0, 1)) {
            return BAD;
        }
        Law law = laws.all[text];
        return what == 0 ? law.key : law.leaves;
    }

    public int why(int key) {
        return within(key, 0, KEYS - 1) ? laws.lastOf(key, now.texts) : BAD;
    }

    // ---- sheets, slots

    public int sheet(int sheet, int sort, int n) {
        if (!isSheet(sheet) || !within(sort, Row.MISSING, Row.FLOATS)) {
            return BAD;
        }
        if (sort == Row.MISSING) {
            rows[sheet].renew(Row.MISSING, 0);
            return 0;
        }
        if (n > MOST_PLACES) {
            return BAD;
        }
        if (n < 0) {
            return SIZE;
        }
        rows[sheet].renew(sort, n);
        return n;
    }

    public int mark(int sheet, int place, int v) {
        if (!isSheet(sheet)) {
            return BAD;
        }
        Row row = rows[sheet];
        if (row.isMissing()) {
            return NOTHING;
        }
        if (!row.hasPlace(place)) {
            return INDEX;
        }
        if (row.sort == Row.SHORTS) {
            if (v == NONE) {
                return KIND;
            }
            row.places[place] = (short) v;
            return 1;
        }
        if (v != NONE && !within(v, -MOST_OF_FLOATS, MOST_OF_FLOATS)) {
            return BAD;
        }
        row.places[place] = v;
        return 1;
    }

    public int pour(int sheet) {
        if (!isSheet(sheet)) {
            return BAD;
        }
        Row row = rows[sheet];
        if (row.isMissing()) {
            return NOTHING;
        }
        int changed = 0;
        for (int r = 0; r < now.roofs && r < row.length; r++) {
            if (row.isNumber(r)) {
                int leak = heldWithin(row.places[r], 0, MOST_LEAK);
                if (leak != now.leaks[r]) {
                    now.leaks[r] = leak;
                    changed++;
                }
            }
        }
        return changed;
    }

    public int reads(int sheet) {
        if (!isSheet(sheet)) {
            return BAD;
        }
        Row row = rows[sheet];
        if (row.isMissing()) {
            return NOTHING;
        }
        for (int k = 0; k < row.length; k++) {
            if (row.isNumber(k) && (k >= now.roofs || row.places[k] != now.over[k])) {
                return k;
            }
        }
        return NONE;
    }

    public int copy(int from, int place, int to, int at, int many) {
        if (!isSheet(from) || !isSheet(to)) {
            return BAD;
        }
        Row source = rows[from];
        Row target = rows[to];
        if (source.isMissing() || target.isMissing()) {
            return NOTHING;
        }
        if (source.sort != target.sort) {
            return KIND;
        }
        if (!source.hasPlaces(place, many) || !target.hasPlaces(at, many)) {
            return INDEX;
        }
        System.arraycopy(source.places, place, target.places, at, many);
        return many;
    }

    public int lay(int slot, int thing, int k) {
        if (!isSlot(slot) || !within(thing, Slot.EMPTY, Slot.A_NUMBER)) {
            return BAD;
        }
        if (thing == Slot.A_ROOF && !isRoof(k) || thing == Slot.A_SHEET && !isSheet(k)) {
            return BAD;
        }
        if (thing == Slot.A_SHEET && rows[k].isMissing()) {
            return NOTHING;
        }
        Slot s = slots[slot];
        int held = s.holds;
        s.holds = thing;
        if (thing == Slot.A_ROOF) {
            s.kind = now.kinds[k];
            s.size = now.sizes[k];
        } else if (thing == Slot.A_SHEET) {
            s.row.becomeLike(rows[k]);
        } else if (thing == Slot.A_NUMBER) {
            s.number = k;
        }
        return held;
    }

    public int ask(int slot, int kind) {
        if (!isSlot(slot) || !isKind(kind)) {
            return BAD;
        }
        Slot s = slots[slot];
        if (s.holds == Slot.EMPTY) {
            return NOTHING;
        }
        if (s.holds != Slot.A_ROOF || !Kinds.isOne(s.kind, kind)) {
            return KIND;
        }
        return Kinds.worth(s.kind, s.size);
    }

    public int item(int slot, int place) {
        if (!isSlot(slot)) {
            return BAD;
        }
        Slot s = slots[slot];
        if (s.holds == Slot.EMPTY) {
            return NOTHING;
        }
        if (s.holds != Slot.A_SHEET) {
            return KIND;
        }
        if (!s.row.hasPlace(place)) {
            return INDEX;
        }
        return s.row.isNumber(place) ? s.row.places[place] : KIND;
    }

    public int rest(int slot, int n) {
        if (!isSlot(slot)) {
            return BAD;
        }
        Slot s = slots[slot];
        if (s.holds == Slot.EMPTY) {
            return NOTHING;
        }
        if (s.holds != Slot.A_NUMBER) {
            return KIND;
        }
        if (n == 0) {
            return NO;
        }
        return s.number % n;
    }

    // ---- rows, images

    public int tell(int v) {
        if (waits >= MOST_WAITING) {
            return FULL;
        }
        waiting[waits] = v;
        waits++;
        return waits;
    }

    public int check(int n) {
        int many = waits;
        waits = 0;
        if (!within(n, 1, 30)) {
            return BAD;
        }
        if (!kept) {
            return NO;
        }
        int told = Math.min(n, LAST_NIGHT - image.night);
        thought.becomeLike(image);
        for (int i = 0; i < told; i++) {
            thought.pass(1);
            if (!waitsAt(2 * i, many, thought.stolen)) {
                return 1 + 2 * i;
            }
            if (!waitsAt(2 * i + 1, many, thought.leakOfAll())) {
                return 2 + 2 * i;
            }
        }
        return many > 2 * told ? 1 + 2 * told : 0;
    }

    public int keep() {
        image.becomeLike(now);
        kept = true;
        return image.roofs;
    }

    public int back() {
        if (!kept) {
            return NO;
        }
        now.becomeLike(image);
        return now.roofs;
    }

    public int count(int what) {
        switch (what) {
            case 0: return now.roofs;
            case 1: return now.night;
            case 2: return now.strengths[0];
            case 3: return now.strengths[1];
            case 4: return now.rain;
            case 5: return now.texts;
            case 6: return waits;
            case 7: return tape.length;
            case 8: return now.z;
            default: return BAD;
        }
    }

    // ---- what the calls share

    private static boolean within(int v, int least, int most) {
        return v >= least && v <= most;
    }

    private static int heldWithin(int v, int least, int most) {
        return Math.max(least, Math.min(most, v));
    }

    private static boolean inSet(int set, int roof) {
        return (set >> roof & 1) == 1;
    }

    private static boolean isKind(int kind) {
        return within(kind, 0, Kinds.MANY - 1);
    }

    private static boolean isHouse(int house) {
        return within(house, 0, HOUSES - 1);
    }

    private static boolean isTown(int town) {
        return within(town, 0, TOWNS - 1);
    }

    private static boolean isSheet(int sheet) {
        return within(sheet, 0, SHEETS - 1);
    }

    private static boolean isSlot(int slot) {
        return within(slot, 0, SLOTS - 1);
    }

    private static int townOf(int house) {
        return house < HOUSES_OF_A_TOWN ? 0 : 1;
    }

    private static int otherTown(int town) {
        return 1 - town;
    }

    private static int firstHouse(int town) {
        return town * HOUSES_OF_A_TOWN;
    }

    private boolean isRoof(int roof) {
        return within(roof, 0, now.roofs - 1);
    }

    private boolean waitsAt(int place, int many, int due) {
        return place < many && place < MOST_WAITING && waiting[place] == due;
    }

    /** At how many places of the row each roof's house, that many nights on, is told. */
    private void countHits(Row row) {
        for (int r = 0; r < now.roofs; r++) {
            hits[r] = 0;
        }
        thought.becomeLike(now);
        for (int k = 0; k < row.length; k++) {
            if (k > 0) {
                thought.pass(1);
            }
            for (int r = 0; r < now.roofs; r++) {
                if (row.isNumber(k) && row.places[k] == thought.over[r]) {
                    hits[r]++;
                }
            }
        }
    }

    /** What roofs of each kind do; a kind that a method does not name does as the one above it. */
    private static final class Kinds {
        static final int ROOF = 0;
        static final int THATCH = 1;
        static final int DOME = 2;
        static final int HAY = 3;
        static final int CUPOLA = 4;
        static final int PAINTED = 5;
        static final int MANY = 6;

        /** The kind above, or -1 above all. */
        private static int above(int kind) {
            switch (kind) {
                case THATCH: case DOME: case PAINTED: return ROOF;
                case HAY: return THATCH;
                case CUPOLA: return DOME;
                default: return -1;
            }
        }

        static boolean isOne(int kind, int of) {
            int k = kind;
            for (int step = 0; step < MANY && k >= 0; step++) {
                if (k == of) {
                    return true;
                }
                k = above(k);
            }
            return false;
        }

        static int weighs(int kind, int size) {
            int asRoof = 2 * size;
            switch (kind) {
                case THATCH: case HAY: return asRoof / 2;
                case DOME: return 2 * asRoof;
                case CUPOLA: return 2 * asRoof - 2;
                case PAINTED: return 1;
                default: return asRoof;
            }
        }

        static int covers(int kind, int size) {
            switch (kind) {
                case HAY: return size / 2;
                case DOME: case CUPOLA: return size + 3;
                case PAINTED: return 0;
                default: return size;
            }
        }

        static int drips(int kind, int leak) {
            int asRoof = leak / 10;
            switch (kind) {
                case THATCH: return asRoof + 2;
                case HAY: return 2 * (asRoof + 2);
                case CUPOLA: return 1;
                default: return asRoof;
            }
        }

        static int worth(int kind, int size) {
            switch (kind) {
                case THATCH: return size + 4;
                case HAY: return 2 * (size + 4);
                case DOME: return 30 - size;
                case CUPOLA: return 30 - size - 6;
                case PAINTED: return 2;
                default: return size;
            }
        }
    }

    /** All that an image keeps; the laws themselves are shared, a hill tells how many of them it knows. */
    private static final class Hill {
        final Laws laws;
        final int[] kinds = new int[MOST_ROOFS];
        final int[] sizes = new int[MOST_ROOFS];
        final int[] leaks = new int[MOST_ROOFS];
        final int[] over = new int[MOST_ROOFS];
        final int[] people = new int[HOUSES];
        final int[] watches = new int[HOUSES];
        final int[] roofOver = new int[HOUSES];
        final int[] strengths = new int[TOWNS];
        int roofs;
        int rain;
        int stolen;
        int caught;
        int wet;
        int night;
        int z;
        int texts;

        Hill(Laws laws) {
            this.laws = laws;
            for (int h = 0; h < HOUSES; h++) {
                people[h] = 3;
                roofOver[h] = NONE;
            }
            strengths[0] = 12;
            strengths[1] = 12;
            rain = 40;
            z = 1;
        }

        void becomeLike(Hill other) {
            System.arraycopy(other.kinds, 0, kinds, 0, MOST_ROOFS);
            System.arraycopy(other.sizes, 0, sizes, 0, MOST_ROOFS);
            System.arraycopy(other.leaks, 0, leaks, 0, MOST_ROOFS);
            System.arraycopy(other.over, 0, over, 0, MOST_ROOFS);
            System.arraycopy(other.people, 0, people, 0, HOUSES);
            System.arraycopy(other.watches, 0, watches, 0, HOUSES);
            System.arraycopy(other.roofOver, 0, roofOver, 0, HOUSES);
            System.arraycopy(other.strengths, 0, strengths, 0, TOWNS);
            roofs = other.roofs;
            rain = other.rain;
            stolen = other.stolen;
            caught = other.caught;
            wet = other.wet;
            night = other.night;
            z = other.z;
            texts = other.texts;
        }

        /** The caller sees to it that there is room and that the house has no roof. */
        int build(int kind, int size, int leak, int house) {
            int r = roofs;
            kinds[r] = kind;
            sizes[r] = size;
            leaks[r] = leak;
            over[r] = house;
            roofOver[house] = r;
            roofs++;
            return r;
        }

        void put(int roof, int house) {
            roofOver[over[roof]] = NONE;
            over[roof] = house;
            roofOver[house] = roof;
        }

        int draw() {
            z = z * 1103515245 + 12345;
            return z >>> 8;
        }

        /** The caller sees to it that there is room. */
        void drawRoof() {
            int kind = draw() % Kinds.MANY;
            int size = 1 + draw() % MOST_SIZED;
            int leak = draw() % 50;
            int house = draw() % HOUSES;
            for (int step = 0; step < HOUSES && roofOver[house] != NONE; step++) {
                house = (house + 1) % HOUSES;
            }
            build(kind, size, leak, house);
        }

        int dryWere(int roof, int house) {
            return Math.min(people[house], Kinds.covers(kinds[roof], sizes[roof]));
        }

        int dryIn(int house) {
            int roof = roofOver[house];
            return roof == NONE ? 0 : dryWere(roof, house);
        }

        int dryOf(int town) {
            int first = firstHouse(town);
            int dry = 0;
            for (int h = first; h < first + HOUSES_OF_A_TOWN; h++) {
                dry += dryIn(h);
            }
            return dry;
        }

        int leakOfAll() {
            int sum = 0;
            for (int r = 0; r < roofs; r++) {
                sum += leaks[r];
            }
            return sum;
        }

        int homeOf(int town) {
            int first = firstHouse(town);
            for (int h = first; h < first + HOUSES_OF_A_TOWN; h++) {
                if (roofOver[h] == NONE) {
                    return h;
                }
            }
            return NONE;
        }

        /** A set by bits. */
        int mayCarry(int town) {
            int set = 0;
            for (int r = 0; r < roofs; r++) {
                if (townOf(over[r]) != town && Kinds.weighs(kinds[r], sizes[r]) <= strengths[town]) {
                    set |= 1 << r;
                }
            }
            return set;
        }

        void carry(int roof, int home) {
            // worked out first: the law asks for the leak as it was
            int spite = laws.spiteOf(this, roof);
            put(roof, home);
            leaks[roof] = Math.min(MOST_LEAK, leaks[roof] + spite);
            stolen++;
        }

        private int roofOfSet(int set, int place) {
            int left = place;
            for (int r = 0; r < MOST_ROOFS; r++) {
                if (inSet(set, r)) {
                    if (left == 0) {
                        return r;
                    }
                    left--;
                }
            }
            return NONE;
        }

        private void goOut(int town) {
            int set = mayCarry(town);
            int home = homeOf(town);
            int many = Integer.bitCount(set);
            if (many == 0 || home == NONE) {
                return;
            }
            int roof = roofOfSet(set, draw() % many);
            int luck = draw() % 100;
            if (roof == NONE) {
                return;
            }
            if (luck < watches[over[roof]]) {
                caught++;
            } else {
                carry(roof, home);
            }
        }

        private int rainsIn() {
            int sum = 0;
            for (int r = 0; r < roofs; r++) {
                sum += Kinds.drips(kinds[r], leaks[r]);
            }
            for (int h = 0; h < HOUSES; h++) {
                if (people[h] > 0 && roofOver[h] == NONE) {
                    sum += 20;
                }
            }
            return sum;
        }

        void pass(int many) {
            for (int i = 0; i < many; i++) {
                int first = night % TOWNS;
                goOut(first);
                goOut(otherTown(first));
                if (draw() % 100 < rain) {
                    wet += rainsIn();
                }
                night++;
            }
        }
    }

    /** Which of a town's roofs keep most of its people dry over which of its houses. */
    private static final class Fitting {
        private static final int SETS = 1 << HOUSES_OF_A_TOWN;
        private final int[] roofs = new int[HOUSES_OF_A_TOWN];
        private int many;
        /** Most that can be dry in the houses from one on with the roofs of a set. */
        private final int[][] most = new int[HOUSES_OF_A_TOWN + 1][SETS];
        private final int[] chosen = new int[HOUSES_OF_A_TOWN];

        void think(Hill hill, int town) {
            many = 0;
            for (int r = 0; r < hill.roofs && many < HOUSES_OF_A_TOWN; r++) {
                if (townOf(hill.over[r]) == town) {
                    roofs[many] = r;
                    many++;
                }
            }
            for (int h = HOUSES_OF_A_TOWN - 1; h >= 0; h--) {
                for (int set = 0; set < 1 << many; set++) {
                    most[h][set] = mostFrom(hill, town, h, set);
                }
            }
            choose(hill, town);
        }

        int dry() {
            return most[0][(1 << many) - 1];
        }

        int roofFor(int house) {
            return chosen[house];
        }

        /** With the roof of that place over the house, and the best behind it. */
        private int dryWith(Hill hill, int town, int h, int set, int place) {
            return hill.dryWere(roofs[place], firstHouse(town) + h) + most[h + 1][set ^ 1 << place];
        }

        private int mostFrom(Hill hill, int town, int h, int set) {
            int best = most[h + 1][set];
            for (int i = 0; i < many; i++) {
                if (inSet(set, i)) {
                    best = Math.max(best, dryWith(hill, town, h, set, i));
                }
            }
            return best;
        }

        private void choose(Hill hill, int town) {
            int set = (1 << many) - 1;
            for (int h = 0; h < HOUSES_OF_A_TOWN; h++) {
                int place = leastOfBest(hill, town, h, set);
                chosen[h] = place == NONE ? NONE : roofs[place];
                if (place != NONE) {
                    set ^= 1 << place;
                }
            }
        }

        private int leastOfBest(Hill hill, int town, int h, int set) {
            for (int i = 0; i < many; i++) {
                if (inSet(set, i) && dryWith(hill, town, h, set, i) == most[h][set]) {
                    return i;
                }
            }
            return NONE;
        }
    }

    /** A text, as a row of codes: what an operation needs stands ahead of it. */
    private static final class Law {
        /** Codes: a number is itself, a name -1 less its place, an operation its sign and this. */
        static final int OPERATION = 10000;
        int key;
        int leaves;
        int length;
        final int[] codes = new int[MOST_BYTES];

        void clear() {
            leaves = 0;
            length = 0;
        }

        void addLeaf(int code) {
            leaves++;
            addCode(code);
        }

        void addOperation(int sign) {
            addCode(OPERATION + sign);
        }

        private void addCode(int code) {
            if (length < MOST_BYTES) {
                codes[length] = code;
                length++;
            }
        }
    }

    /** All texts; one row more than there may be, so that a text too many can still be read for its fault. */
    private static final class Laws {
        final Law[] all = new Law[MOST_TEXTS + 1];
        private final int[] stack = new int[MOST_BYTES];

        Laws() {
            for (int i = 0; i <= MOST_TEXTS; i++) {
                all[i] = new Law();
            }
        }

        int lastOf(int key, int texts) {
            for (int i = texts - 1; i >= 0; i--) {
                if (all[i].key == key) {
                    return i;
                }
            }
            return NONE;
        }

        Law counting(int key, int texts) {
            int last = lastOf(key, texts);
            return last == NONE ? null : all[last];
        }

        int spiteOf(Hill hill, int roof) {
            Law law = counting(SPITE_KEY, hill.texts);
            if (law == null) {
                return 5;
            }
            return heldWithin(workOut(law, hill.leaks[roof], hill.sizes[roof], hill.night), 0, MOST_LEAK);
        }

        /** What the law gives if its names, by their places, stand for these. */
        int workOut(Law law, int first, int second, int third) {
            int top = 0;
            for (int i = 0; i < law.length; i++) {
                int code = law.codes[i];
                if (code < Law.OPERATION && top < MOST_BYTES) {
                    stack[top] = code >= 0 ? code : named(-1 - code, first, second, third);
                    top++;
                } else if (code == Law.OPERATION + '!' && top >= 1) {
                    stack[top - 1] = stack[top - 1] == 0 ? 1 : 0;
                } else if (code > Law.OPERATION && top >= 2) {
                    top--;
                    stack[top - 1] = joined(code - Law.OPERATION, stack[top - 1], stack[top]);
                }
            }
            return stack[0];
        }

        private static int named(int place, int first, int second, int third) {
            return place == 0 ? first : place == 1 ? second : third;
        }

        private static int joined(int sign, int a, int b) {
            switch (sign) {
                case '|': return a != 0 || b != 0 ? 1 : 0;
                case '&': return a != 0 && b != 0 ? 1 : 0;
                case '<': return a < b ? 1 : 0;
                case '=': return a == b ? 1 : 0;
                case '>': return a > b ? 1 : 0;
                case '+': return a + b;
                case '-': return a - b;
                case '*': return a * b;
                default: return b == 0 ? 0 : a / b;
            }
        }
    }

    private static final class Tape {
        final int[] bytes = new int[MOST_BYTES];
        int length;

        /** The caller sees to it that there is room. */
        void add(int four) {
            for (int shift = 24; shift >= 0; shift -= 8) {
                bytes[length] = four >>> shift & 255;
                length++;
            }
        }
    }

    /** Reads the tape into a law, word by word and sign by sign, and stops at the first that does not go on. */
    private static final class Reader {
        static final int NO_FAULT = -1;
        private static final int END = 0;
        private static final int LETTERS = 1;
        private static final int DIGITS = 2;
        private static final int SIGN = 3;
        /** A word that fits nowhere. */
        private static final int BROKEN = 4;
        private static final int TEST = 2;
        private static final int TIGHTEST = 4;
        private static final int MOST_OPEN = 8;

        private final Tape tape;
        private Law law;
        private int sort;
        private int start;
        private int end;
        private int brackets;
        private int nots;

        Reader(Tape tape) {
            this.tape = tape;
        }

        /** The place of the fault, or NO_FAULT: then the law is what the tape tells. */
        int faultIn(Law target) {
            law = target;
            law.clear();
            sort = SIGN;
            end = 0;
            brackets = 0;
            nots = 0;
            step();
            return readKey() && readLevel(0) && sort == END ? NO_FAULT : start;
        }

        private void step() {
            boolean behindWord = sort == LETTERS || sort == DIGITS;
            int from = end;
            start = from;
            while (start < tape.length && tape.bytes[start] == ' ') {
                start++;
            }
            end = start;
            if (start >= tape.length) {
                sort = END;
                return;
            }
            sort = sortOf(tape.bytes[start]);
            end++;
            while (sort != SIGN && end < tape.length && sortOf(tape.bytes[end]) == sort) {
                end++;
            }
            if (sort == DIGITS && end - start > 4 || sort != SIGN && behindWord && start == from) {
                sort = BROKEN;
            }
        }

        private static int sortOf(int b) {
            if (b >= 'a' && b <= 'z') {
                return LETTERS;
            }
            return b >= '0' && b <= '9' ? DIGITS : SIGN;
        }

        private static String keyWord(int key) {
            switch (key) {
                case SPITE_KEY: return "spite";
                case FEE_KEY: return "fee";
                default: return "fine";
            }
        }

        private static String names(int key) {
            switch (key) {
                case SPITE_KEY: return "lsn";
                case FEE_KEY: return "tw";
                default: return "ls";
            }
        }

        private static String signs(int level) {
            switch (level) {
                case 0: return "|";
                case 1: return "&";
                case TEST: return "<=>";
                case 3: return "+-";
                default: return "*/";
            }
        }

        private boolean isWord(String word) {
            if (sort != LETTERS || end - start != word.length()) {
                return false;
            }
            for (int i = 0; i < word.length(); i++) {
                if (tape.bytes[start + i] != word.charAt(i)) {
                    return false;
                }
            }
            return true;
        }

        private boolean isSign(String some) {
            return sort == SIGN && some.indexOf((char) tape.bytes[start]) >= 0;
        }

        private boolean readKey() {
            for (int key = 0; key < KEYS; key++) {
                if (isWord(keyWord(key))) {
                    law.key = key;
                    step();
                    return true;
                }
            }
            return false;
        }

        /** A level from the loosest, 0, to the tightest ahead of the pieces; as deep as brackets and nots may be open. */
        private boolean readLevel(int level) {
            if (!readBelow(level)) {
                return false;
            }
            int most = level == TEST ? 1 : MOST_BYTES;
            for (int i = 0; i < most && isSign(signs(level)); i++) {
                int sign = tape.bytes[start];
                step();
                if (!readBelow(level)) {
                    return false;
                }
                law.addOperation(sign);
            }
            return true;
        }

        private boolean readBelow(int level) {
            return level >= TIGHTEST ? readPiece() : readLevel(level + 1);
        }

        private boolean readPiece() {
            if (sort == DIGITS) {
                law.addLeaf(number());
                step();
                return true;
            }
            if (sort == LETTERS) {
                return readName();
            }
            if (isSign("!")) {
                return readNot();
            }
            return isSign("(") && readBracket();
        }

        private int number() {
            int v = 0;
            for (int i = start; i < end; i++) {
                v = 10 * v + tape.bytes[i] - '0';
            }
            return v;
        }

        private boolean readName() {
            int place = names(law.key).indexOf((char) tape.bytes[start]);
            if (end - start != 1 || place < 0) {
                return false;
            }
            law.addLeaf(-1 - place);
            step();
            return true;
        }

        private boolean readNot() {
            if (nots >= MOST_OPEN) {
                return false;
            }
            nots++;
            step();
            if (!readPiece()) {
                return false;
            }
            nots--;
            law.addOperation('!');
            return true;
        }

        private boolean readBracket() {
            if (brackets >= MOST_OPEN) {
                return false;
            }
            brackets++;
            step();
            if (!readLevel(0) || !isSign(")")) {
                return false;
            }
            brackets--;
            step();
            return true;
        }
    }

    /** A sheet, or what a slot holds of one. */
    private static final class Row {
        static final int MISSING = -1;
        static final int SHORTS = 0;
        static final int FLOATS = 1;
        int sort = MISSING;
        int length;
        /** A place that is no number holds NONE, which no number of a row can be. */
        final int[] places = new int[MOST_PLACES];

        void renew(int newSort, int n) {
            sort = newSort;
            length = n;
            for (int i = 0; i < n; i++) {
                places[i] = 0;
            }
        }

        void becomeLike(Row other) {
            sort = other.sort;
            length = other.length;
            System.arraycopy(other.places, 0, places, 0, MOST_PLACES);
        }

        boolean isMissing() {
            return sort == MISSING;
        }

        boolean hasPlace(int place) {
            return place >= 0 && place < length;
        }

        boolean hasPlaces(int first, int many) {
            return first >= 0 && many >= 0 && first <= length && many <= length - first;
        }

        boolean isNumber(int place) {
            return places[place] != NONE;
        }
    }

    private static final class Slot {
        static final int EMPTY = 0;
        static final int A_ROOF = 1;
        static final int A_SHEET = 2;
        static final int A_NUMBER = 3;
        int holds;
        int kind;
        int size;
        int number;
        final Row row = new Row();
    }
}
