/** Flames that beat and push one another on: ../shared/DOC.md says, by numbered promises, what each call answers. */
public final class CandleTurns {
    public static final int BAD = -1000000001, NO = -1000000002, FULL = -1000000003, NONE = -1000000005, NOTHING = -1000000011, KIND = -1000000012, INDEX = -1000000013, SIZE = -1000000014;

    private static final int FLAMES_MOST = 8, TEXTS_MOST = 14, TAPE_MOST = 96, WAITING_MOST = 60, PLACES_MOST = 24;
    private static final int SHEETS = 4, SLOTS = 5, KEYS = 3;
    private static final int BEAT = 120, HALF_BEAT = 60, SIDE = 30, GAS_MOST = 999;
    private static final int FLAME_KIND = 0, ALONG = 1, AGAINST = 2, ROUND = 3, STILL = 4, DRAUGHTY = 5;
    private static final int PACE = 0, JOIN = 1, WIND = 2;
    private static final int MISSING = -1, SHORTS = 0, FLOATS = 1, FLOAT_MOST = 99999;
    private static final int HOLDS_NOTHING = 0, HOLDS_FLAME = 1, HOLDS_SHEET = 2, HOLDS_NUMBER = 3;
    private static final int SOON_MOST = 200, PERIOD_MOST = 300, BASIN_TICKS = 30, QUIET_TICKS = 10, QUIET_STEP = 3, LEARNT_MOST = 29;

    private final Law[] laws;
    private final Room now;
    private final Room thought;
    private final Room image;
    private boolean kept = false;
    private final Row[] sheets = new Row[SHEETS];
    private final Slot[] slots = new Slot[SLOTS];
    private final int[] waiting = new int[WAITING_MOST];
    private int waits = 0;
    private final Tape tape = new Tape();

    public CandleTurns() {
        Law[] shared = new Law[TEXTS_MOST];
        for (int i = 0; i < TEXTS_MOST; i++) {
            shared[i] = new Law();
        }
        laws = shared;
        now = new Room(shared);
        thought = new Room(shared);
        image = new Room(shared);
        for (int i = 0; i < SHEETS; i++) {
            sheets[i] = new Row();
        }
        for (int i = 0; i < SLOTS; i++) {
            slots[i] = new Slot();
        }
    }

    // ---- flames

    public int flame(int kind, int place, int size) {
        if (!isKind(kind) || !isPlace(place) || !isWithin(size, 1, 9)) {
            return BAD;
        }
        if (now.number >= FLAMES_MOST) {
            return FULL;
        }
        return now.lightOne(kind, place / 100, place % 100, size);
    }

    public int told(int flame, int what) {
        if (!isFlame(flame)) {
            return BAD;
        }
        Flame one = now.flames[flame];
        switch (what) {
            case 0: return one.kind;
            case 1: return one.x;
            case 2: return one.y;
            case 3: return one.size;
            case 4: return one.phase;
            case 5: return one.gas;
            case 6: return one.flashes;
            case 7: return now.paceOf(flame);
            case 8: return now.pushesOn(flame);
            case 9: return one.worth();
            default: return BAD;
        }
    }

    public int as(int flame, int kind) {
        if (!isFlame(flame) || !isKind(kind)) {
            return BAD;
        }
        Flame one = now.flames[flame];
        return one.isOf(kind) ? one.size : KIND;
    }

    public int turns(int flame, int kind) {
        if (!isFlame(flame) || !isKind(kind)) {
            return BAD;
        }
        Flame one = now.flames[flame];
        int was = one.kind;
        one.kind = kind;
        return was;
    }

    public int set(int flame, int what, int v) {
        if (!isFlame(flame)) {
            return BAD;
        }
        Flame one = now.flames[flame];
        int was = BAD;
        if (what == 0 && isWithin(v, 1, 9)) {
            was = one.size;
            one.size = v;
        } else if (what == 1 && isPhase(v)) {
            was = one.phase;
            one.phase = v;
        } else if (what == 2 && isWithin(v, 0, GAS_MOST)) {
            was = one.gas;
            one.gas = v;
        }
        return was;
    }

    public int move(int flame, int place) {
        if (!isFlame(flame) || !isPlace(place)) {
            return BAD;
        }
        Flame one = now.flames[flame];
        int x = place / 100;
        int y = place % 100;
        int far = one.wayTo(x, y);
        one.x = x;
        one.y = y;
        return far;
    }

    public int glass(int one, int other, int v) {
        if (!isPair(one, other) || !isWithin(v, 0, 1)) {
            return BAD;
        }
        int was = now.hasGlass(one, other) ? 1 : 0;
        now.putGlass(one, other, v == 1);
        return was;
    }

    public int reach(int what, int v) {
        if (!isWithin(what, 0, 1) || !isWithin(v, 0, 59)) {
            return BAD;
        }
        int was = what == 0 ? now.near : now.far;
        if (what == 0) {
            now.near = v;
        } else {
            now.far = v;
        }
        return was;
    }

    public int push(int one, int other) {
        return isPair(one, other) ? now.pushBy(one, other) : BAD;
    }

    public int deal(int n) {
        if (!isWithin(n, 1, FLAMES_MOST)) {
            return BAD;
        }
        int came = Math.min(n, FLAMES_MOST - now.number);
        for (int i = 0; i < came; i++) {
            now.drawOne();
        }
        return came;
    }

    public int seed(int v) {
        int was = now.z;
        now.z = v;
        return was;
    }

    // ---- ticks

    public int run(int n) {
        if (!isWithin(n, 1, 60)) {
            return BAD;
        }
        int flashed = 0;
        for (int i = 0; i < n; i++) {
            flashed += now.goBy();
        }
        return flashed;
    }

    public int spread() {
        return now.arc();
    }

    public int groups(int w) {
        return isPhase(w) ? now.gapsAbove(w) : BAD;
    }

    public int soon(int w) {
        if (!isPhase(w)) {
            return BAD;
        }
        thought.become(now);
        for (int ticks = 0; ticks <= SOON_MOST; ticks++) {
            if (thought.agrees(w)) {
                return ticks;
            }
            thought.goBy();
        }
        return NONE;
    }

    public int period() {
        thought.become(now);
        for (int ticks = 1; ticks <= PERIOD_MOST; ticks++) {
            thought.goBy();
            if (thought.beatsAs(now)) {
                return ticks;
            }
        }
        return NONE;
    }

    public int film(int flame, int k) {
        if (!isFlame(flame) || !isWithin(k, 1, 60)) {
            return BAD;
        }
        thought.become(now);
        for (int i = 0; i < k; i++) {
            thought.goBy();
        }
        return ahead(thought.flames[flame].phase, now.flames[flame].phase);
    }

    public int basin(int w) {
        if (!isPhase(w)) {
            return BAD;
        }
        int first = now.litFrom(0);
        int second = now.litFrom(first + 1);
        if (second >= now.number) {
            return NO;
        }
        int many = 0;
        for (int begin = 0; begin < 36; begin++) {
            thought.become(now);
            thought.flames[first].phase = 20 * (begin / 6);
            thought.flames[second].phase = 20 * (begin % 6);
            for (int i = 0; i < BASIN_TICKS; i++) {
                thought.goBy();
            }
            many += thought.agrees(w) ? 1 : 0;
        }
        return many;
    }

    public int quiet(int flame, int what) {
        if (!isFlame(flame) || !isWithin(what, 0, 1)) {
            return BAD;
        }
        Flame one = now.flames[flame];
        int least = BEAT + 1;
        int place = NONE;
        for (int x = one.x - QUIET_STEP; x <= one.x + QUIET_STEP; x++) {
            for (int y = one.y - QUIET_STEP; y <= one.y + QUIET_STEP; y++) {
                int arc = isOnBoard(x, y) ? arcFrom(flame, x, y) : BEAT + 1;
                if (arc < least) {
                    least = arc;
                    place = 100 * x + y;
                }
            }
        }
        if (what == 1) {
            return place;
        }
        return least >= BEAT ? NONE : least;
    }

    private int arcFrom(int flame, int x, int y) {
        thought.become(now);
        thought.flames[flame].x = x;
        thought.flames[flame].y = y;
        for (int i = 0; i < QUIET_TICKS; i++) {
            thought.goBy();
        }
        int arc = thought.arc();
        return arc == NONE ? BEAT : arc;
    }

    public int learn(int sheet, int flame) {
        if (!isSheet(sheet) || !isFlame(flame)) {
            return BAD;
        }
        Row row = sheets[sheet];
        if (row.isMissing()) {
            return NOTHING;
        }
        int best = 0;
        int most = 0;
        for (int near = 0; near <= LEARNT_MOST; near++) {
            int hits = hitsWith(near, row, flame);
            if (hits > most) {
                most = hits;
                best = near;
            }
        }
        return best;
    }

    private int hitsWith(int near, Row row, int flame) {
        thought.become(now);
        thought.near = near;
        int hits = 0;
        for (int k = 0; k < row.length; k++) {
            thought.goBy();
            // No phase is NONE, so a place that is no number never hits.
            hits += row.places[k] == thought.flames[flame].phase ? 1 : 0;
        }
        return hits;
    }

    // ---- texts

    public int feed(int a, int b, int c) {
        if (tape.length + 12 > TAPE_MOST) {
            return FULL;
        }
        tape.addFour(a);
        tape.addFour(b);
        tape.addFour(c);
        return tape.length;
    }

    public int trim(int n) {
        if (!isWithin(n, 0, tape.length)) {
            return BAD;
        }
        tape.length = n;
        return n;
    }

    public int text() {
        int fault = tape.faultOf();
        tape.length = 0;
        if (fault >= 0) {
            return -100 - fault;
        }
        int number = now.texts;
        if (number >= TEXTS_MOST) {
            return FULL;
        }
        // No image counts a text from this number on, so the law that the tape takes in exchange is nobody's.
        Law told = tape.law;
        tape.law = laws[number];
        laws[number] = told;
        now.counting[told.key] = number;
        now.texts = number + 1;
        return number;
    }

    public int textTold(int text, int what) {
        if (!isWithin(text, 0, now.texts - 1) || !isWithin(what, 0, 1)) {
            return BAD;
        }
        return what == 0 ? laws[text].key : laws[text].leaves;
    }

    public int why(int key) {
        if (!isWithin(key, 0, KEYS - 1)) {
            return BAD;
        }
        return now.counting[key] < 0 ? NONE : now.counting[key];
    }

    // ---- sheets, slots

    public int sheet(int sheet, int sort, int n) {
        if (!isSheet(sheet) || !isWithin(sort, MISSING, FLOATS)) {
            return BAD;
        }
        int length = sort == MISSING ? 0 : n;
        if (length > PLACES_MOST) {
            return BAD;
        }
        if (length < 0) {
            return SIZE;
        }
        sheets[sheet].begin(sort, length);
        return length;
    }

    public int mark(int sheet, int place, int v) {
        if (!isSheet(sheet)) {
            return BAD;
        }
        Row row = sheets[sheet];
        if (row.isMissing()) {
            return NOTHING;
        }
        if (!row.has(place)) {
            return INDEX;
        }
        if (row.sort == SHORTS && v == NONE) {
            return KIND;
        }
        if (row.sort == FLOATS && v != NONE && !isWithin(v, -FLOAT_MOST, FLOAT_MOST)) {
            return BAD;
        }
        row.places[place] = row.sort == SHORTS ? (short) v : v;
        return 1;
    }

    public int pour(int sheet) {
        if (!isSheet(sheet)) {
            return BAD;
        }
        Row row = sheets[sheet];
        if (row.isMissing()) {
            return NOTHING;
        }
        int otherwise = 0;
        for (int i = 0; i < now.number && row.has(i); i++) {
            int v = row.places[i];
            if (isPhase(v) && v != now.flames[i].phase) {
                now.flames[i].phase = v;
                otherwise++;
            }
        }
        return otherwise;
    }

    public int reads(int sheet) {
        if (!isSheet(sheet)) {
            return BAD;
        }
        Row row = sheets[sheet];
        if (row.isMissing()) {
            return NOTHING;
        }
        for (int i = 0; i < row.length; i++) {
            int v = row.places[i];
            if (v != NONE && !(isFlame(i) && v == now.flames[i].phase)) {
                return i;
            }
        }
        return NONE;
    }

    public int copy(int from, int place, int to, int at, int many) {
        if (!isSheet(from) || !isSheet(to)) {
            return BAD;
        }
        Row source = sheets[from];
        Row target = sheets[to];
        if (source.isMissing() || target.isMissing()) {
            return NOTHING;
        }
        if (source.sort != target.sort) {
            return KIND;
        }
        if (!source.hasRun(place, many) || !target.hasRun(at, many)) {
            return INDEX;
        }
        System.arraycopy(source.places, place, target.places, at, many);
        return many;
    }

    public int lay(int slot, int thing, int k) {
        boolean isThere = thing == HOLDS_FLAME ? isFlame(k) : thing != HOLDS_SHEET || isSheet(k);
        if (!isSlot(slot) || !isWithin(thing, HOLDS_NOTHING, HOLDS_NUMBER) || !isThere) {
            return BAD;
        }
        if (thing == HOLDS_SHEET && sheets[k].isMissing()) {
            return NOTHING;
        }
        Slot one = slots[slot];
        int was = one.thing;
        one.thing = thing;
        if (thing == HOLDS_FLAME) {
            one.flame.become(now.flames[k]);
        } else if (thing == HOLDS_SHEET) {
            one.row.become(sheets[k]);
        } else {
            one.number = k;
        }
        return was;
    }

    public int ask(int slot, int kind) {
        if (!isSlot(slot) || !isKind(kind)) {
            return BAD;
        }
        Slot one = slots[slot];
        if (one.thing == HOLDS_NOTHING) {
            return NOTHING;
        }
        return one.thing == HOLDS_FLAME && one.flame.isOf(kind) ? one.flame.worth() : KIND;
    }

    public int item(int slot, int place) {
        if (!isSlot(slot)) {
            return BAD;
        }
        Slot one = slots[slot];
        if (one.thing == HOLDS_NOTHING) {
            return NOTHING;
        }
        if (one.thing != HOLDS_SHEET) {
            return KIND;
        }
        if (!one.row.has(place)) {
            return INDEX;
        }
        return one.row.places[place] == NONE ? KIND : one.row.places[place];
    }

    public int rest(int slot, int n) {
        if (!isSlot(slot)) {
            return BAD;
        }
        Slot one = slots[slot];
        if (one.thing == HOLDS_NOTHING) {
            return NOTHING;
        }
        if (one.thing != HOLDS_NUMBER) {
            return KIND;
        }
        return n == 0 ? NO : one.number % n;
    }

    // ---- rows, images

    public int tell(int v) {
        if (waits >= WAITING_MOST) {
            return FULL;
        }
        waiting[waits] = v;
        waits++;
        return waits;
    }

    public int check(int n) {
        int told = waits;
        waits = 0;
        if (!isWithin(n, 1, WAITING_MOST / 2)) {
            return BAD;
        }
        if (!kept) {
            return NO;
        }
        thought.become(image);
        for (int at = 0; at < 2 * n; at += 2) {
            int flashed = thought.goBy();
            if (at >= told || waiting[at] != thought.arc()) {
                return at + 1;
            }
            if (at + 1 >= told || waiting[at + 1] != flashed) {
                return at + 2;
            }
        }
        return told == 2 * n ? 0 : 2 * n + 1;
    }

    public int keep() {
        image.become(now);
        kept = true;
        return now.number;
    }

    public int back() {
        if (!kept) {
            return NO;
        }
        now.become(image);
        return now.number;
    }

    public int count(int what) {
        switch (what) {
            case 0: return now.number;
            case 1: return now.litMany();
            case 2: return now.ticks;
            case 3: return now.near;
            case 4: return now.far;
            case 5: return now.texts;
            case 6: return waits;
            case 7: return tape.length;
            case 8: return now.z;
            default: return BAD;
        }
    }

    // ---- what is asked of arguments

    private static boolean isWithin(int v, int least, int most) {
        return v >= least && v <= most;
    }

    private static boolean isPhase(int v) {
        return isWithin(v, 0, BEAT - 1);
    }

    private static boolean isKind(int kind) {
        return isWithin(kind, FLAME_KIND, DRAUGHTY);
    }

    private static boolean isSheet(int sheet) {
        return isWithin(sheet, 0, SHEETS - 1);
    }

    private static boolean isSlot(int slot) {
        return isWithin(slot, 0, SLOTS - 1);
    }

    private static boolean isOnBoard(int x, int y) {
        return isWithin(x, 0, SIDE - 1) && isWithin(y, 0, SIDE - 1);
    }

    private static boolean isPlace(int place) {
        return place >= 0 && isOnBoard(place / 100, place % 100);
    }

    private boolean isFlame(int flame) {
        return isWithin(flame, 0, now.number - 1);
    }

    private boolean isPair(int one, int other) {
        return isFlame(one) && isFlame(other) && one != other;
    }

    private static int ahead(int phase, int of) {
        int p = phase - of;
        if (p >= HALF_BEAT) {
            return p - BEAT;
        }
        return p < -HALF_BEAT ? p + BEAT : p;
    }

    private static int held(int v, int least, int most) {
        if (v < least) {
            return least;
        }
        return v > most ? most : v;
    }

    /** One flame; what its kind makes of pace, pushes and worth stands here alone. */
    private static final class Flame {
        int kind, x, y, size, phase, gas, flashes;

        void light(int newKind, int newX, int newY, int newSize) {
            kind = newKind;
            x = newX;
            y = newY;
            size = newSize;
            phase = 0;
            gas = GAS_MOST;
            flashes = 0;
        }

        void become(Flame other) {
            kind = other.kind;
            x = other.x;
            y = other.y;
            size = other.size;
            phase = other.phase;
            gas = other.gas;
            flashes = other.flashes;
        }

        boolean isLit() {
            return gas > 0;
        }

        boolean isOf(int wanted) {
            return wanted == FLAME_KIND || wanted == kind || wanted == ALONG && kind == ROUND || wanted == AGAINST && kind == STILL;
        }

        int wayTo(int toX, int toY) {
            return Math.abs(x - toX) + Math.abs(y - toY);
        }

        int paceFrom(int asFlame) {
            switch (kind) {
                case ALONG: return asFlame + 1;
                case ROUND: return 2 * (asFlame + 1);
                case AGAINST: return asFlame / 2;
                case STILL: return 0;
                case DRAUGHTY: return asFlame + 2;
                default: return asFlame;
            }
        }

        int turnedFrom(int pushes, int wind) {
            switch (kind) {
                case ALONG: return 2 * pushes;
                case ROUND: return 2 * pushes + 3;
                case AGAINST: return -pushes;
                case STILL: return isWithin(pushes, -4, 4) ? 0 : -pushes;
                case DRAUGHTY: return pushes + wind;
                default: return pushes;
            }
        }

        int worth() {
            switch (kind) {
                case ALONG: return size + 4;
                case ROUND: return 2 * (size + 4);
                case AGAINST: return 9 - size;
                case STILL: return 9 - size - 2;
                case DRAUGHTY: return size * size;
                default: return size;
            }
        }

        boolean burnTo(int next) {
            boolean flashed = next >= BEAT;
            int left = next % BEAT;
            phase = left < 0 ? left + BEAT : left;
            gas = Math.max(0, gas - size);
            flashes += flashed ? 1 : 0;
            return flashed;
        }
    }

    /** All that an image keeps: flames, glass, reaches, tick, z, and which texts count. */
    private static final class Room {
        final Law[] laws;
        final Flame[] flames = new Flame[FLAMES_MOST];
        final int[] glasses = new int[FLAMES_MOST];
        final int[] nexts = new int[FLAMES_MOST];
        final int[] counting = new int[KEYS];
        int number = 0;
        int near = 4;
        int far = 9;
        int ticks = 0;
        int z = 1;
        int texts = 0;

        Room(Law[] laws) {
            this.laws = laws;
            for (int i = 0; i < FLAMES_MOST; i++) {
                flames[i] = new Flame();
            }
            for (int key = 0; key < KEYS; key++) {
                counting[key] = -1;
            }
        }

        void become(Room other) {
            for (int i = 0; i < FLAMES_MOST; i++) {
                flames[i].become(other.flames[i]);
                glasses[i] = other.glasses[i];
            }
            for (int key = 0; key < KEYS; key++) {
                counting[key] = other.counting[key];
            }
            number = other.number;
            near = other.near;
            far = other.far;
            ticks = other.ticks;
            z = other.z;
            texts = other.texts;
        }

        int lightOne(int kind, int x, int y, int size) {
            if (number >= FLAMES_MOST) {
                return FULL;
            }
            flames[number].light(kind, x, y, size);
            number++;
            return number - 1;
        }

        void drawOne() {
            int kind = draw() % 5;
            int x = draw() % SIDE;
            int y = draw() % SIDE;
            int size = 1 + draw() % 9;
            int phase = draw() % BEAT;
            int drawn = lightOne(kind, x, y, size);
            if (drawn >= 0) {
                flames[drawn].phase = phase;
            }
        }

        int draw() {
            z = z * 1103515245 + 12345;
            return z >>> 8;
        }

        boolean hasGlass(int one, int other) {
            return (glasses[one] >>> other & 1) == 1;
        }

        void putGlass(int one, int other, boolean isThere) {
            int ofOne = 1 << other;
            int ofOther = 1 << one;
            glasses[one] = isThere ? glasses[one] | ofOne : glasses[one] & ~ofOne;
            glasses[other] = isThere ? glasses[other] | ofOther : glasses[other] & ~ofOther;
        }

        Law lawFor(int key) {
            int text = counting[key];
            return isWithin(text, 0, TEXTS_MOST - 1) ? laws[text] : null;
        }

        int paceOf(int one) {
            Flame flame = flames[one];
            Law law = lawFor(PACE);
            int asFlame = law == null ? 12 - flame.size : held(law.gives(flame.size, one, 0), 0, 40);
            return flame.paceFrom(asFlame);
        }

        int pushBy(int one, int other) {
            Flame own = flames[one];
            Flame its = flames[other];
            if (!own.isLit() || !its.isLit() || hasGlass(one, other)) {
                return 0;
            }
            int d = own.wayTo(its.x, its.y);
            int p = ahead(its.phase, own.phase);
            Law law = lawFor(JOIN);
            if (law != null) {
                return held(law.gives(d, p, its.size), -20, 20);
            }
            if (d <= near) {
                return p / 4;
            }
            return d <= far ? -p / 4 : 0;
        }

        int pushesOn(int one) {
            int together = 0;
            for (int other = 0; other < number; other++) {
                together += other == one ? 0 : pushBy(one, other);
            }
            return together;
        }

        int windOn(int one) {
            Law law = lawFor(WIND);
            return law == null ? draw() % 11 - 5 : held(law.gives(ticks, one, 0), -30, 30);
        }

        int nextOf(int one) {
            Flame flame = flames[one];
            // Others ask for no wind: without a text each wind costs a draw.
            int wind = flame.kind == DRAUGHTY ? windOn(one) : 0;
            return flame.phase + paceOf(one) + flame.turnedFrom(pushesOn(one), wind);
        }

        int goBy() {
            // All nexts come first: each looks at the phases and the gas of all as they were ahead of the tick.
            for (int i = 0; i < number; i++) {
                nexts[i] = flames[i].isLit() ? nextOf(i) : 0;
            }
            int flashed = 0;
            for (int i = 0; i < number; i++) {
                flashed += flames[i].isLit() && flames[i].burnTo(nexts[i]) ? 1 : 0;
            }
            ticks++;
            return flashed;
        }

        int litFrom(int from) {
            for (int i = Math.max(0, from); i < number; i++) {
                if (flames[i].isLit()) {
                    return i;
                }
            }
            return number;
        }

        int litMany() {
            int many = 0;
            for (int i = 0; i < number; i++) {
                many += flames[i].isLit() ? 1 : 0;
            }
            return many;
        }

        boolean beatsAs(Room other) {
            for (int i = 0; i < number; i++) {
                if (flames[i].phase != other.flames[i].phase) {
                    return false;
                }
            }
            return true;
        }

        /** The step from a flame's phase to the next one that is there: a whole round, if there is no other. */
        int stepFrom(int one) {
            int least = BEAT;
            for (int other = 0; other < number; other++) {
                int step = flames[other].phase - flames[one].phase;
                step = step < 0 ? step + BEAT : step;
                if (flames[other].isLit() && step > 0 && step < least) {
                    least = step;
                }
            }
            return least;
        }

        int arc() {
            int greatest = 0;
            for (int i = 0; i < number; i++) {
                if (flames[i].isLit()) {
                    greatest = Math.max(greatest, stepFrom(i));
                }
            }
            return greatest == 0 ? NONE : BEAT - greatest;
        }

        boolean agrees(int w) {
            return isWithin(arc(), 0, w);
        }

        int gapsAbove(int w) {
            int gaps = 0;
            for (int i = 0; i < number; i++) {
                // Flames of one phase share one step: it counts with the first of them.
                gaps += flames[i].isLit() && isFirstOfPhase(i) && stepFrom(i) > w ? 1 : 0;
            }
            return gaps == 0 && litMany() > 0 ? 1 : gaps;
        }

        boolean isFirstOfPhase(int one) {
            for (int i = 0; i < one; i++) {
                if (flames[i].isLit() && flames[i].phase == flames[one].phase) {
                    return false;
                }
            }
            return true;
        }
    }

    /** A row of a sheet. NO NUMBER is held as NONE: no short and no float that may be marked is that. */
    private static final class Row {
        int sort = MISSING;
        int length = 0;
        final int[] places = new int[PLACES_MOST];

        void begin(int newSort, int newLength) {
            sort = newSort;
            length = newLength;
            for (int i = 0; i < PLACES_MOST; i++) {
                places[i] = 0;
            }
        }

        void become(Row other) {
            sort = other.sort;
            length = other.length;
            for (int i = 0; i < PLACES_MOST; i++) {
                places[i] = other.places[i];
            }
        }

        boolean isMissing() {
            return sort == MISSING;
        }

        boolean has(int place) {
            return isWithin(place, 0, length - 1);
        }

        // Lengths are taken away, not added: the sum of two arguments might wrap.
        boolean hasRun(int place, int many) {
            return isWithin(place, 0, length) && isWithin(many, 0, length - place);
        }
    }

    /** A slot has room for each thing from the beginning, so that laying makes no objects. */
    private static final class Slot {
        int thing = HOLDS_NOTHING;
        final Flame flame = new Flame();
        final Row row = new Row();
        int number = 0;
    }

    /** A text as steps, each of which works on what earlier steps gave; the last one gives the answer. */
    private static final class Law {
        static final int NUMBER = 0, NAME = 1;
        int key = PACE;
        int leaves = 0;
        int steps = 0;
        final int[] acts = new int[TAPE_MOST];
        final int[] lefts = new int[TAPE_MOST];
        final int[] rights = new int[TAPE_MOST];
        final int[] gave = new int[TAPE_MOST];

        void begin(int newKey) {
            key = newKey;
            leaves = 0;
            steps = 0;
        }

        int addLeaf(int act, int v) {
            if (steps >= TAPE_MOST) {
                return -1;
            }
            leaves++;
            return put(act, v, 0);
        }

        int addStep(int act, int left, int right) {
            if (steps >= TAPE_MOST || !isWithin(left, 0, steps - 1) || !isWithin(right, 0, steps - 1)) {
                return -1;
            }
            return put(act, left, right);
        }

        int put(int act, int left, int right) {
            acts[steps] = act;
            lefts[steps] = left;
            rights[steps] = right;
            steps++;
            return steps - 1;
        }

        int gives(int first, int second, int third) {
            int last = 0;
            for (int i = 0; i < steps; i++) {
                int left = lefts[i];
                if (acts[i] == NUMBER) {
                    last = left;
                } else if (acts[i] == NAME) {
                    last = left == 0 ? first : left == 1 ? second : third;
                } else {
                    last = work(acts[i], gave[left], gave[rights[i]]);
                }
                gave[i] = last;
            }
            return last;
        }

        static int work(int act, int a, int b) {
            switch (act) {
                case '|': return a != 0 || b != 0 ? 1 : 0;
                case '&': return a != 0 && b != 0 ? 1 : 0;
                case '<': return a < b ? 1 : 0;
                case '=': return a == b ? 1 : 0;
                case '>': return a > b ? 1 : 0;
                case '+': return a + b;
                case '-': return a - b;
                case '*': return a * b;
                case '/': return b == 0 ? 0 : a / b;
                case '!': return a == 0 ? 1 : 0;
                default: return 0;
            }
        }
    }

    /** The tape, and its reading, by words and signs, into a law of its own; -1 goes up through all calls from the fault on. */
    private static final class Tape {
        // Signs are their byte, 0 to 255; what is no sign stands below.
        static final int END = -1, LETTERS = -2, DIGITS = -3, STUCK = -4;
        static final int BLANK = 32, OPEN_MOST = 8, DIGITS_MOST = 4, LEVEL_OF_TESTS = 2, LEVEL_OF_PIECES = 5;
        static final int KEY_LENGTH = 4, NAMES_OF_KEY = 3;
        static final String KEY_WORDS = "pacejoinwind";
        // Three for each key, in the order in which a law is given them; '.' is no letter.
        static final String NAME_LETTERS = "sn.dpstn.";

        final byte[] bytes = new byte[TAPE_MOST];
        int length = 0;
        int start = 0;
        int end = 0;
        int sort = END;
        int fault = -1;
        Law law = new Law();

        void addFour(int four) {
            for (int shift = 24; shift >= 0 && length < TAPE_MOST; shift -= 8) {
                bytes[length] = (byte) (four >>> shift);
                length++;
            }
        }

        int faultOf() {
            end = 0;
            sort = END;
            fault = -1;
            advance();
            int key = sort == LETTERS ? keyOfWord() : -1;
            if (key < 0) {
                return start;
            }
            law.begin(key);
            advance();
            int whole = chain(0, 0, 0);
            if (whole >= 0 && sort != END) {
                fail();
            }
            return fault;
        }

        int fail() {
            fault = start;
            return -1;
        }

        void advance() {
            boolean isBehindWord = sort == LETTERS || sort == DIGITS;
            int from = end;
            start = from;
            while (start < length && bytes[start] == BLANK) {
                start++;
            }
            end = start;
            sort = start < length ? sortAt(start) : END;
            boolean isWord = sort == LETTERS || sort == DIGITS;
            while (isWord && end < length && sortAt(end) == sort) {
                end++;
            }
            if (isWord && isBehindWord && start == from) {
                sort = STUCK;
            }
            if (!isWord && sort != END) {
                end = start + 1;
            }
        }

        int sortAt(int place) {
            int sign = bytes[place] & 255;
            if (isWithin(sign, 'a', 'z')) {
                return LETTERS;
            }
            return isWithin(sign, '0', '9') ? DIGITS : sign;
        }

        int keyOfWord() {
            for (int key = 0; key < KEYS && end - start == KEY_LENGTH; key++) {
                int same = 0;
                for (int i = 0; i < KEY_LENGTH; i++) {
                    same += bytes[start + i] == KEY_WORDS.charAt(KEY_LENGTH * key + i) ? 1 : 0;
                }
                if (same == KEY_LENGTH) {
                    return key;
                }
            }
            return -1;
        }

        /** What is joined by the signs of a level, from looser to tighter ones; open and nots are ( and ! that are open. */
        int chain(int level, int open, int nots) {
            if (level >= LEVEL_OF_PIECES) {
                return piece(open, nots);
            }
            int left = chain(level + 1, open, nots);
            int most = level == LEVEL_OF_TESTS ? 1 : TAPE_MOST;
            for (int i = 0; i < most && left >= 0 && levelOf(sort) == level; i++) {
                int sign = sort;
                advance();
                int right = chain(level + 1, open, nots);
                left = right < 0 ? -1 : law.addStep(sign, left, right);
            }
            return left;
        }

        static int levelOf(int sign) {
            switch (sign) {
                case '|': return 0;
                case '&': return 1;
                case '<': case '=': case '>': return LEVEL_OF_TESTS;
                case '+': case '-': return 3;
                case '*': case '/': return 4;
                default: return -1;
            }
        }

        int piece(int open, int nots) {
            if (sort == DIGITS) {
                return number();
            }
            if (sort == LETTERS) {
                return name();
            }
            if (sort == '!' && nots < OPEN_MOST) {
                advance();
                int of = piece(open, nots + 1);
                return of < 0 ? -1 : law.addStep('!', of, of);
            }
            return sort == '(' && open < OPEN_MOST ? bracket(open, nots) : fail();
        }

        int bracket(int open, int nots) {
            advance();
            int inner = chain(0, open + 1, nots);
            if (inner < 0) {
                return -1;
            }
            if (sort != ')') {
                return fail();
            }
            advance();
            return inner;
        }

        int number() {
            if (end - start > DIGITS_MOST) {
                return fail();
            }
            int v = 0;
            for (int i = start; i < end; i++) {
                v = 10 * v + bytes[i] - '0';
            }
            advance();
            return law.addLeaf(Law.NUMBER, v);
        }

        int name() {
            int letter = bytes[start];
            for (int i = 0; i < NAMES_OF_KEY && end - start == 1; i++) {
                if (NAME_LETTERS.charAt(NAMES_OF_KEY * law.key + i) == letter) {
                    advance();
                    return law.addLeaf(Law.NAME, i);
                }
            }
            return fail();
        }
    }
}
