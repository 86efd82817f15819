import java.util.Arrays;

/**
 * Stubs are what one has to show. How all DOINGS are, and the SLIP, is one int, a MOMENT: bits 0 to 7
 * are what is done, bits 8 to 15 are the stubs in the lining (so done with a stub is SHOWN, done
 * without is BARE, a stub alone is FORGED, neither is OPEN), bits 16 and up are the SLIP.
 */
public final class StubKeep {
    public static final int NONE = -1;

    private static final int NO_SUCH = -2;
    private static final int BAD_NUMBER = -3;
    private static final int TOO_MANY = -4;
    private static final int NOT_NOW = -5;
    private static final int TRAY_MISSING = -6;
    private static final int NO_PLACE = -7;
    private static final int WHY_NOT = -10;
    private static final int TEXT_FAULT = -30;

    private static final int MOST = 8;
    private static final int SETS = 256;
    private static final int TAPE_ROOM = 900;
    private static final int TRAYS = 4;
    private static final int IMAGES = 2;
    private static final int MOST_TOLD = 12;

    private static final int OPEN = 0;
    private static final int SHOWN = 1;
    private static final int BARE = 2;
    private static final int FORGED = 3;

    private static final int TO_DO = 0;
    private static final int TO_DROP = 1;
    private static final int TO_FORGE = 2;
    private static final int TO_ASK = 3;
    private static final int TO_SLIP = 4;

    private final World world = new World();
    private final Reader reader = new Reader();
    private final Walk walk = new Walk();
    private final Orders told = new Orders();
    private final Clashes clashes = new Clashes();
    private final Past past = new Past();
    private final Tray[] trays = new Tray[TRAYS];
    private final Life[] imageLives = new Life[IMAGES];
    private final int[] imageMoments = new int[IMAGES];
    private final int[] tape = new int[TAPE_ROOM];
    private int tapeLength = 0;

    public StubKeep() {
        for (int i = 0; i < TRAYS; i++) {
            trays[i] = new Tray();
        }
        for (int i = 0; i < IMAGES; i++) {
            imageLives[i] = new Life();
            imageMoments[i] = NONE;
        }
    }

    // ---- the life

    public int feed(int a, int b, int c, int d, int e) {
        if (tapeLength + 20 > TAPE_ROOM) {
            return NOT_NOW;
        }
        feedInt(a);
        feedInt(b);
        feedInt(c);
        feedInt(d);
        feedInt(e);
        return tapeLength;
    }

    private void feedInt(int bytes) {
        for (int shift = 24; shift >= 0; shift -= 8) {
            if (tapeLength < TAPE_ROOM) {
                tape[tapeLength] = bytes >>> shift & 255;
                tapeLength++;
            }
        }
    }

    public int life(int n) {
        if (n < 0 || n > tapeLength) {
            return BAD_NUMBER;
        }
        tapeLength = 0;
        reader.read(tape, n);
        if (reader.fault != 0) {
            return TEXT_FAULT - reader.fault;
        }
        begin(reader.draft, reader.draft.slip << 16);
        return world.life.lines;
    }

    private void begin(Life life, int moment) {
        world.take(life);
        walk.forget();
        past.begin(moment);
    }

    public int fault(int what) {
        if (what == 0) {
            return reader.fault;
        }
        return what == 1 ? reader.place : NONE;
    }

    public int doing(int d, int what) {
        Life life = world.life;
        if (!life.has(d)) {
            return NO_SUCH;
        }
        switch (what) {
            case 0: return moodOf(past.now, d);
            case 1: return life.size[d];
            case 2: return life.edge[d];
            case 3: return life.asked[d];
            case 4: return life.burns[d];
            case 5: return life.worth[d];
            case 6: return life.needs[d];
            case 7: return life.clash[d];
            default: return NO_SUCH;
        }
    }

    public int door(int k) {
        return k < 0 || k >= world.life.doors ? NO_SUCH : world.life.door[k];
    }

    public int putBack(int d) {
        int why = notDone(d);
        return why != 0 ? why : world.life.needing(d, doneIn(past.now));
    }

    public int open() {
        Life life = world.life;
        int done = doneIn(past.now);
        int can = 0;
        for (int d = 0; d < life.doings; d++) {
            if ((done >> d & 1) == 0 && (life.needs[d] & ~done) == 0) {
                can |= 1 << d;
            }
        }
        return can;
    }

    private int notDone(int d) {
        if (!world.life.has(d)) {
            return NO_SUCH;
        }
        return (doneIn(past.now) >> d & 1) == 0 ? NOT_NOW : 0;
    }

    // ---- deeds

    public int does(int d) {
        int why = enact(TO_DO, d);
        return why < 0 ? WHY_NOT + why : moodOf(past.now, d);
    }

    public int drop(int d) {
        int why = enact(TO_DROP, d);
        return why < 0 ? WHY_NOT + why : Integer.bitCount(liningIn(past.now));
    }

    public int forge(int d) {
        int why = enact(TO_FORGE, d);
        return why < 0 ? WHY_NOT + why : world.life.roomLeft(liningIn(past.now));
    }

    public int ask(int d) {
        int before = past.now;
        int why = enact(TO_ASK, d);
        return why < 0 ? WHY_NOT + why : notOpenIn(before) & ~notOpenIn(past.now);
    }

    public int slip(int n) {
        int before = slipIn(past.now);
        int why = enact(TO_SLIP, n);
        return why < 0 ? WHY_NOT + why : before;
    }

    /** 0, or less by why it can't be. */
    private int enact(int kind, int d) {
        // Beyond 9 the deed's number would be one of another kind.
        int next = d < 0 || d > 9 ? -1 : world.tryDeed(past.now, kind * 10 + d);
        if (next < 0) {
            return next;
        }
        past.goOn(next);
        return 0;
    }

    public int undo(int n) {
        if (n < 1 || n > past.count) {
            return BAD_NUMBER;
        }
        past.goBack(n);
        return past.count;
    }

    public int judge(int tray, int what) {
        if (tray < 0 || tray >= TRAYS || what < 0 || what > 3) {
            return NO_SUCH;
        }
        if (!trays[tray].there) {
            return TRAY_MISSING;
        }
        Tray deeds = trays[tray];
        int can = world.howMany(past.now, deeds);
        int then = world.after(past.now, deeds, can);
        switch (what) {
            case 0: return can < deeds.count ? can : NONE;
            case 1: return can < deeds.count ? -world.tryDeed(then, deeds.at(can)) : 0;
            case 2: return doneIn(then);
            default: return liningIn(then);
        }
    }

    public int perform(int tray) {
        int why = noTray(tray);
        if (why != 0) {
            return why;
        }
        int can = world.howMany(past.now, trays[tray]);
        if (can > 0) {
            past.goOn(world.after(past.now, trays[tray], can));
        }
        return can;
    }

    private int noTray(int tray) {
        if (tray < 0 || tray >= TRAYS) {
            return NO_SUCH;
        }
        return trays[tray].there ? 0 : TRAY_MISSING;
    }

    public int year(int seed, int times) {
        if (times < 1 || times > 40) {
            return BAD_NUMBER;
        }
        int x = seed;
        int then = past.now;
        int could = 0;
        for (int i = 0; i < times; i++) {
            x = 1103515245 * x + 12345;
            int kind = kindDrawn((x >>> 16) % 8);
            x = 1103515245 * x + 12345;
            int next = world.tryDeed(then, kind * 10 + (x >>> 16) % 8);
            if (next >= 0) {
                then = next;
                could++;
            }
        }
        if (could > 0) {
            past.goOn(then);
        }
        return could;
    }

    private static int kindDrawn(int draw) {
        if (draw < 4) {
            return TO_DO;
        }
        if (draw == 4) {
            return TO_DROP;
        }
        return draw == 5 ? TO_FORGE : TO_ASK;
    }

    // ---- coming

    public int soonest(int set) {
        if (!world.life.hasAll(set)) {
            return BAD_NUMBER;
        }
        return walk.length(walk.toDone(world, stateIn(past.now), set));
    }

    public int way(int set, int i) {
        if (!world.life.hasAll(set) || i < 0) {
            return BAD_NUMBER;
        }
        return walk.deedAt(walk.toDone(world, stateIn(past.now), set), i);
    }

    public int shown(int set) {
        if (!world.life.hasAll(set)) {
            return BAD_NUMBER;
        }
        return walk.length(walk.toShown(world, stateIn(past.now), set));
    }

    public int shownBy(int set, int i) {
        if (!world.life.hasAll(set) || i < 0) {
            return BAD_NUMBER;
        }
        return walk.deedAt(walk.toShown(world, stateIn(past.now), set), i);
    }

    public long rows(int set, int n) {
        if (!world.life.hasAll(set) || n < 0 || n > 8) {
            return BAD_NUMBER;
        }
        return walk.rowsTo(world, stateIn(past.now), set, n);
    }

    public int most() {
        return walk.mostShown(world, stateIn(past.now));
    }

    public int stands() {
        walk.spread(world, stateIn(past.now));
        return walk.count;
    }

    // ---- packing

    public int gain(int d) {
        int why = notDone(d);
        return why != 0 ? why : world.life.gainOf(d, doneIn(past.now));
    }

    public int pack(int what) {
        if (what != 0 && what != 1) {
            return NO_SUCH;
        }
        int done = doneIn(past.now);
        int set = world.life.bestPacked(done);
        return what == 1 ? set : world.life.gainsOf(set, done);
    }

    // ---- orders

    public int orders(int tray) {
        int why = tellOrders(tray);
        return why != 0 ? why : told.total();
    }

    public int order(int tray, int i) {
        int why = tellOrders(tray);
        if (why != 0) {
            return why;
        }
        return i < 0 ? BAD_NUMBER : told.firstAt(i);
    }

    public int ahead(int tray, int d, int e) {
        if (!world.life.has(d) || !world.life.has(e) || d == e) {
            return NO_SUCH;
        }
        int why = tellOrders(tray);
        if (why != 0) {
            return why;
        }
        if (notDone(d) != 0 || notDone(e) != 0) {
            return NOT_NOW;
        }
        told.tell(d, e);
        return told.total();
    }

    /** 0 when all that the TRAY tells can be taken, else the code. */
    private int tellOrders(int tray) {
        int why = noTray(tray);
        if (why != 0) {
            return why;
        }
        Tray tells = trays[tray];
        if (tells.count > MOST_TOLD) {
            return TOO_MANY;
        }
        told.begin(world.life, doneIn(past.now));
        for (int i = 0; i < tells.count; i++) {
            if (!told.tellNumber(tells.at(i))) {
                return BAD_NUMBER;
            }
        }
        return 0;
    }

    // ---- halves

    public int join(int what) {
        if (what == 0) {
            return Integer.bitCount(world.life.doorsJoined(shownIn(past.now)));
        }
        if (what < 10 || !world.life.has(what - 10)) {
            return NO_SUCH;
        }
        return world.life.doorOf(what - 10, shownIn(past.now));
    }

    public int over() {
        int all = (1 << world.life.doors) - 1;
        return all & ~world.life.doorsJoined(shownIn(past.now));
    }

    // ---- slips

    public int slips(int tray) {
        int why = noPassed(tray);
        return why != 0 ? why : slipsBy(trays[tray]);
    }

    public int attempt(int tray) {
        int why = noPassed(tray);
        if (why != 0) {
            return why;
        }
        int slips = slipsBy(trays[tray]);
        int best = NONE;
        int most = -1;
        for (int d = 0; d < world.life.doings && slips != 0; d++) {
            if (moodOf(past.now, d) == FORGED) {
                int by = slips & world.slipsPassing(d, liningIn(past.now));
                int lesser = Math.min(Integer.bitCount(by), Integer.bitCount(slips & ~by));
                if (lesser > most) {
                    most = lesser;
                    best = d;
                }
            }
        }
        return best;
    }

    private int noPassed(int tray) {
        int why = noTray(tray);
        if (why != 0) {
            return why;
        }
        Tray tells = trays[tray];
        if (tells.count < 1 || tells.count > MOST_TOLD) {
            return TOO_MANY;
        }
        for (int i = 0; i < tells.count; i++) {
            long v = tells.at(i);
            if (v < 0 || v >= 2 * world.life.doings || moodOf(past.now, (int) v / 2) != FORGED) {
                return BAD_NUMBER;
            }
        }
        return 0;
    }

    private int slipsBy(Tray tells) {
        int slips = (1 << 10) - 1;
        for (int i = 0; i < tells.count; i++) {
            int v = (int) tells.at(i);
            int passing = world.slipsPassing(v / 2, liningIn(past.now));
            slips &= v % 2 == 1 ? passing : ~passing;
        }
        return slips;
    }

    // ---- linings

    public int linings(int what) {
        if (what != 0 && (what < 10 || !world.life.has(what - 10))) {
            return NO_SUCH;
        }
        int count = clashes.part(world.life, doneIn(past.now));
        return what == 0 ? count : clashes.liningOf(what - 10);
    }

    public int clique() {
        return clashes.greatest(world.life, doneIn(past.now));
    }

    // ---- by turns

    public int forces(int set) {
        if (!world.life.hasAll(set)) {
            return BAD_NUMBER;
        }
        return Turns.fewest(world, past.now, set);
    }

    public int best(int set) {
        if (!world.life.hasAll(set)) {
            return BAD_NUMBER;
        }
        return Turns.firstDeed(world, past.now, set, Turns.fewest(world, past.now, set));
    }

    // ---- fires

    public long chance(int d, int what) {
        if (!world.life.has(d) || what < 0 || what > 1) {
            return NO_SUCH;
        }
        if (notDone(d) != 0) {
            return NOT_NOW;
        }
        return World.lowest(world.stillDone(past.now, d), what);
    }

    public long mean(int what) {
        if (what < 0 || what > 1) {
            return NO_SUCH;
        }
        return World.lowest(world.sumDone(past.now), what);
    }

    public int wanted() {
        int best = NONE;
        long most = -1;
        for (int d = 0; d < world.life.doings; d++) {
            if (moodOf(past.now, d) == BARE) {
                long then = world.sumDone(past.now | 256 << d);
                if (then > most) {
                    most = then;
                    best = d;
                }
            }
        }
        return best;
    }

    // ---- trays, images

    public int numbers(int tray, int sort, int n) {
        if (tray < 0 || tray >= TRAYS || sort < 0 || sort > 3) {
            return NO_SUCH;
        }
        if (n < 0 || n > Tray.PLACES) {
            return BAD_NUMBER;
        }
        trays[tray].begin(sort, n);
        return 0;
    }

    public long write(int tray, int i, long v) {
        int why = noTray(tray);
        if (why != 0) {
            return why;
        }
        if (i < 0 || i >= trays[tray].count) {
            return NO_PLACE;
        }
        trays[tray].put(i, v);
        return trays[tray].at(i);
    }

    public int lists(int tray, int set) {
        int why = noTray(tray);
        if (why != 0) {
            return why;
        }
        if (!world.life.hasAll(set)) {
            return BAD_NUMBER;
        }
        int goal = walk.toShown(world, stateIn(past.now), set);
        if (goal < 0) {
            return NOT_NOW;
        }
        int come = Math.min(walk.length(goal), trays[tray].count);
        for (int i = 0; i < come; i++) {
            trays[tray].put(i, walk.deedAt(goal, i));
        }
        return come;
    }

    public int image(int i) {
        if (i < 0 || i >= IMAGES) {
            return NO_SUCH;
        }
        imageLives[i].copyFrom(world.life);
        imageMoments[i] = past.now;
        return 0;
    }

    public int restore(int i) {
        if (i < 0 || i >= IMAGES) {
            return NO_SUCH;
        }
        if (imageMoments[i] < 0) {
            return NOT_NOW;
        }
        begin(imageLives[i], imageMoments[i]);
        return 0;
    }

    public int count(int what) {
        switch (what) {
            case 0: return world.life.doings;
            case 1: return world.life.doors;
            case 2: return world.life.room;
            case 3: return world.life.roomLeft(liningIn(past.now));
            case 4: return doneIn(past.now);
            case 5: return liningIn(past.now);
            case 6: return liningIn(past.now) & ~doneIn(past.now);
            case 7: return slipIn(past.now);
            case 8: return past.count;
            case 9: return tapeLength;
            case 10: return world.life.lines;
            default: return NONE;
        }
    }

    // ---- moments

    private static int doneIn(int moment) {
        return moment & 255;
    }

    private static int liningIn(int moment) {
        return moment >> 8 & 255;
    }

    private static int slipIn(int moment) {
        return moment >> 16;
    }

    /** The moment as ROWS see it: no deed of theirs hangs on the SLIP. */
    private static int stateIn(int moment) {
        return moment & 0xFFFF;
    }

    private static int shownIn(int moment) {
        return moment & moment >> 8 & 255;
    }

    private static int notOpenIn(int moment) {
        return (moment | moment >> 8) & 255;
    }

    private static int moodOf(int moment, int d) {
        boolean stub = (moment >> d + 8 & 1) == 1;
        if ((moment >> d & 1) == 1) {
            return stub ? SHOWN : BARE;
        }
        return stub ? FORGED : OPEN;
    }

    /** What one is, and what could be brought back. */
    private static final class Past {
        private static final int DEPTH = 10;
        private final int[] moments = new int[DEPTH];
        int now = 0;
        int count = 0;

        void begin(int moment) {
            now = moment;
            count = 0;
        }

        void goOn(int next) {
            if (count >= DEPTH) {
                forgetEldest();
            }
            moments[count] = now;
            count++;
            now = next;
        }

        private void forgetEldest() {
            for (int i = 1; i < DEPTH; i++) {
                moments[i - 1] = moments[i];
            }
            count = DEPTH - 1;
        }

        void goBack(int n) {
            if (n > 0 && n <= count) {
                count -= n;
                now = moments[count];
            }
        }
    }

    private static final class Tray {
        static final int PLACES = 40;
        private final long[] row = new long[PLACES];
        private int sort = 0;
        int count = 0;
        boolean there = false;

        void begin(int newSort, int n) {
            Arrays.fill(row, 0L);
            sort = newSort;
            count = n;
            there = true;
        }

        long at(int i) {
            return i >= 0 && i < PLACES ? row[i] : 0;
        }

        void put(int i, long v) {
            if (i >= 0 && i < PLACES) {
                row[i] = cut(v);
            }
        }

        private long cut(long v) {
            switch (sort) {
                case 0: return (byte) v;
                case 1: return (short) v;
                case 2: return (int) v;
                default: return v;
            }
        }
    }

    /** A law as a row of steps, each of which takes from and puts on a pile of numbers. */
    private static final class Law {
        static final int DOING = -1;
        static final int SIZE = -2;
        static final int EDGE = -3;
        static final int HELD = -4;
        static final int LEFT = -5;
        static final int SLIP = -6;
        static final int ADD = -7;
        static final int TAKE = -8;
        static final int TIMES = -9;
        static final int SAME = -10;
        static final int LESS = -11;
        static final int MORE = -12;
        static final int AND = -13;
        static final int OR = -14;
        static final int NOT = -15;
        static final int GIVEN = 6;
        private static final int BOUND = 1000000;
        // Six levels and the outermost leave at most five numbers each on the pile.
        private static final int PILE = 64;

        private final int[] steps = new int[TAPE_ROOM];
        private final int[] pile = new int[PILE];
        private int length = 0;

        void clear() {
            length = 0;
        }

        boolean told() {
            return length > 0;
        }

        void step(int step) {
            if (length < TAPE_ROOM) {
                steps[length] = step;
                length++;
            }
        }

        void copyFrom(Law other) {
            length = other.length;
            System.arraycopy(other.steps, 0, steps, 0, TAPE_ROOM);
        }

        /** given: what stands for DOING to SLIP, in their order. */
        boolean holds(int[] given) {
            if (given.length < GIVEN) {
                return false;
            }
            int top = 0;
            for (int i = 0; i < length && i < TAPE_ROOM; i++) {
                int step = steps[i];
                if (step >= SLIP && top < PILE) {
                    pile[top] = step >= 0 ? step : given[DOING - step];
                    top++;
                } else if (step == NOT && top > 0) {
                    pile[top - 1] = 1 - pile[top - 1];
                } else if (top > 1) {
                    top--;
                    pile[top - 1] = both(step, pile[top - 1], pile[top]);
                }
            }
            return top > 0 && pile[0] != 0;
        }

        private static int both(int step, int a, int b) {
            long value;
            switch (step) {
                case ADD: value = (long) a + b; break;
                case TAKE: value = (long) a - b; break;
                case TIMES: value = (long) a * b; break;
                case SAME: return a == b ? 1 : 0;
                case LESS: return a < b ? 1 : 0;
                case MORE: return a > b ? 1 : 0;
                case AND: return a & b;
                case OR: return a | b;
                default: return 0;
            }
            if (value > BOUND) {
                return BOUND;
            }
            return value < -BOUND ? -BOUND : (int) value;
        }
    }

    /** THE LIFE as it is told, and what hangs on nothing but what is done. */
    private static final class Life {
        int room = 0;
        int doings = 0;
        int doors = 0;
        int slip = 0;
        int lines = 0;
        final int[] size = new int[MOST];
        final int[] edge = new int[MOST];
        final int[] asked = new int[MOST];
        final int[] burns = new int[MOST];
        final int[] worth = new int[MOST];
        final int[] needs = new int[MOST];
        final int[] clash = new int[MOST];
        final int[] door = new int[MOST];
        final Law keeps = new Law();
        final Law passes = new Law();

        void clear() {
            room = 0;
            doings = 0;
            doors = 0;
            slip = 0;
            lines = 0;
            keeps.clear();
            passes.clear();
        }

        void copyFrom(Life other) {
            room = other.room;
            doings = other.doings;
            doors = other.doors;
            slip = other.slip;
            lines = other.lines;
            System.arraycopy(other.size, 0, size, 0, MOST);
            System.arraycopy(other.edge, 0, edge, 0, MOST);
            System.arraycopy(other.asked, 0, asked, 0, MOST);
            System.arraycopy(other.burns, 0, burns, 0, MOST);
            System.arraycopy(other.worth, 0, worth, 0, MOST);
            System.arraycopy(other.needs, 0, needs, 0, MOST);
            System.arraycopy(other.clash, 0, clash, 0, MOST);
            System.arraycopy(other.door, 0, door, 0, MOST);
            keeps.copyFrom(other.keeps);
            passes.copyFrom(other.passes);
        }

        /** A new DOING as it is before its flags are told. */
        void addDoing() {
            if (doings < MOST) {
                size[doings] = 1;
                edge[doings] = 0;
                asked[doings] = 5;
                burns[doings] = 0;
                worth[doings] = 1;
                needs[doings] = 0;
                clash[doings] = 0;
                doings++;
            }
        }

        void addDoor(int itsEdge) {
            if (doors < MOST) {
                door[doors] = itsEdge;
                doors++;
            }
        }

        void addClash(int d, int e) {
            if (has(d) && has(e)) {
                clash[d] |= 1 << e;
                clash[e] |= 1 << d;
            }
        }

        boolean has(int d) {
            return d >= 0 && d < doings && d < MOST;
        }

        boolean hasAll(int set) {
            return (set & -1 << doings) == 0;
        }

        int roomLeft(int lining) {
            int left = room;
            for (int d = 0; d < doings; d++) {
                if ((lining >> d & 1) == 1) {
                    left -= size[d];
                }
            }
            return left;
        }

        /** One, and all done ones that need it, or these: needs are told ahead, so once through is enough. */
        int needing(int d, int done) {
            int set = 1 << d;
            for (int e = d + 1; e < doings; e++) {
                if ((done >> e & 1) == 1 && (needs[e] & set) != 0) {
                    set |= 1 << e;
                }
            }
            return set;
        }

        /** One, and all that it needs, or these. */
        int needed(int d) {
            int set = 1 << d;
            for (int e = d; e >= 0; e--) {
                if ((set >> e & 1) == 1) {
                    set |= needs[e];
                }
            }
            return set;
        }

        int gainOf(int d, int done) {
            int lost = needing(d, done);
            int sum = 0;
            for (int e = 0; e < doings; e++) {
                if ((lost >> e & 1) == 1) {
                    sum += worth[e];
                }
            }
            return asked[d] * sum;
        }

        int gainsOf(int set, int done) {
            int sum = 0;
            for (int d = 0; d < doings; d++) {
                if ((set >> d & 1) == 1) {
                    sum += gainOf(d, done);
                }
            }
            return sum;
        }

        int bestPacked(int done) {
            int best = 0;
            int most = 0;
            for (int set = 1; set < SETS; set++) {
                if ((set & ~done) == 0 && roomLeft(set) >= 0) {
                    int sum = gainsOf(set, done);
                    if (sum > most) {
                        most = sum;
                        best = set;
                    }
                }
            }
            return best;
        }

        /**
         * The DOOR that a DOING joins. All stubs of one edge fit all halves of the other edge, so the first
         * stub takes the first half, and so on, and as many join as can.
         */
        int doorOf(int d, int shown) {
            if ((shown >> d & 1) == 0) {
                return NONE;
            }
            int taken = 0;
            for (int e = 0; e < d; e++) {
                taken += (shown >> e & 1) == 1 && edge[e] == edge[d] ? 1 : 0;
            }
            for (int k = 0; k < doors; k++) {
                if (edge[d] + door[k] == 9) {
                    if (taken == 0) {
                        return k;
                    }
                    taken--;
                }
            }
            return NONE;
        }

        int doorsJoined(int shown) {
            int joined = 0;
            for (int d = 0; d < doings; d++) {
                int k = doorOf(d, shown);
                joined |= k < 0 ? 0 : 1 << k;
            }
            return joined;
        }
    }

    /** Reads a text into a draft of THE LIFE, first TOKEN by TOKEN, then LINE by LINE. */
    private static final class Reader {
        // A word's place, six signs each, tells its number below.
        private static final String WORDS = "life  room  doing size  edge  held  left  slip  asked burns worth needs door  clash keeps passesor    and   not   ";
        private static final int WORD = 6;
        private static final int LIFE = 0;
        private static final int ROOM = 1;
        private static final int DOING = 2;
        private static final int SIZE = 3;
        private static final int EDGE = 4;
        private static final int HELD = 5;
        private static final int LEFT = 6;
        private static final int SLIP = 7;
        private static final int ASKED = 8;
        private static final int BURNS = 9;
        private static final int WORTH = 10;
        private static final int NEEDS = 11;
        private static final int DOOR = 12;
        private static final int CLASH = 13;
        private static final int KEEPS = 14;
        private static final int PASSES = 15;
        private static final int OR = 16;
        private static final int AND = 17;
        private static final int NOT = 18;
        // A sign's kind is its own number, 40 to 93.
        private static final String SIGNS = ";:+-*()[]=<>";
        private static final int NUMBER = 200;
        private static final int STRANGE = 201;
        private static final int END = 202;
        private static final int BAD = 203;
        private static final int DEEPEST = 6;

        final Life draft = new Life();
        int fault = 0;
        int place = NONE;
        private final int[] kinds = new int[TAPE_ROOM + 1];
        private final int[] places = new int[TAPE_ROOM + 1];
        private final int[] values = new int[TAPE_ROOM + 1];
        private int count = 0;
        private int at = 0;
        private boolean slipMayStand = false;

        void read(int[] text, int length) {
            scan(text, Math.min(length, text.length));
            draft.clear();
            fault = 0;
            place = NONE;
            at = 0;
            lifeLine();
            for (int i = 0; i < TAPE_ROOM && fault == 0 && kind() != END; i++) {
                line();
            }
        }

        // ---- tokens

        private void scan(int[] text, int length) {
            count = 0;
            for (int i = 0; i < length; i++) {
                int c = text[i];
                if (c >= 'a' && c <= 'z') {
                    int end = runEnd(text, length, i, 'a', 'z');
                    add(wordAt(text, i, end), i, 0);
                    i = end - 1;
                } else if (c >= '0' && c <= '9') {
                    int end = runEnd(text, length, i, '0', '9');
                    add(end - i > 3 ? BAD : NUMBER, i, numberAt(text, i, end));
                    i = end - 1;
                } else if (c != 10 && c != 32) {
                    add(SIGNS.indexOf((char) c) < 0 ? BAD : c, i, 0);
                }
            }
            add(END, length, 0);
        }

        private void add(int kind, int where, int value) {
            if (count < kinds.length) {
                kinds[count] = kind;
                places[count] = where;
                values[count] = value;
                count++;
            }
        }

        private static int runEnd(int[] text, int length, int from, int least, int greatest) {
            int end = from;
            while (end < length && text[end] >= least && text[end] <= greatest) {
                end++;
            }
            return end;
        }

        private static int numberAt(int[] text, int from, int end) {
            int value = 0;
            for (int i = from; i < end; i++) {
                value = value * 10 + text[i] - '0';
            }
            return value;
        }

        private static int wordAt(int[] text, int from, int end) {
            for (int start = 0; start + WORD <= WORDS.length() && end - from <= WORD; start += WORD) {
                boolean same = true;
                for (int i = 0; i < WORD; i++) {
                    int c = from + i < end ? text[from + i] : ' ';
                    same = same && WORDS.charAt(start + i) == c;
                }
                if (same) {
                    return start / WORD;
                }
            }
            return STRANGE;
        }

        /** Behind a FAULT nothing can stand, so that all that reads comes to its end. */
        private int kind() {
            return fault != 0 || at >= count ? BAD : kinds[at];
        }

        private void next() {
            if (at < count - 1) {
                at++;
            }
        }

        private void fail(int why) {
            if (fault == 0 && at < count) {
                fault = kinds[at] == BAD ? 1 : why;
                place = places[at];
            }
        }

        private void expect(int kind) {
            if (kind() == kind) {
                next();
            } else {
                fail(2);
            }
        }

        /** The N that stands here; behind a FAULT the draft is not used, so any will do. */
        private int number(int least, int greatest) {
            if (kind() != NUMBER) {
                fail(2);
                return least;
            }
            int value = values[at];
            if (value < least || value > greatest) {
                fail(3);
                return least;
            }
            next();
            return value;
        }

        // ---- lines

        private void lifeLine() {
            expect(LIFE);
            expect(ROOM);
            draft.room = number(0, 40);
            endLine();
        }

        private void endLine() {
            expect(';');
            draft.lines++;
        }

        private void line() {
            switch (kind()) {
                case DOING:
                    doingLine();
                    break;
                case DOOR:
                    doorLine();
                    break;
                case CLASH:
                    next();
                    clashPair();
                    break;
                case SLIP:
                    next();
                    draft.slip = number(0, 9);
                    break;
                case KEEPS:
                    lawBegins(draft.keeps, false);
                    truth(draft.keeps, 0);
                    break;
                case PASSES:
                    lawBegins(draft.passes, true);
                    truth(draft.passes, 0);
                    break;
                default:
                    fail(2);
                    break;
            }
            endLine();
        }

        private void doingLine() {
            if (draft.doings >= MOST) {
                fail(4);
                return;
            }
            next();
            expect(SIZE);
            int d = draft.doings;
            draft.addDoing();
            draft.size[d] = number(1, 9);
            for (int i = 0; i < TAPE_ROOM && fault == 0 && kind() != ';'; i++) {
                flag(d);
            }
        }

        private void flag(int d) {
            int flag = kind();
            if (flag != EDGE && flag != NEEDS && (flag < ASKED || flag > WORTH) || !draft.has(d)) {
                fail(2);
                return;
            }
            next();
            switch (flag) {
                case EDGE:
                    draft.edge[d] = number(0, 9);
                    break;
                case ASKED:
                    draft.asked[d] = number(0, 10);
                    break;
                case BURNS:
                    draft.burns[d] = number(0, 10);
                    break;
                case WORTH:
                    draft.worth[d] = number(0, 9);
                    break;
                default:
                    draft.needs[d] |= 1 << number(0, d - 1);
                    break;
            }
        }

        private void doorLine() {
            if (draft.doors >= MOST) {
                fail(4);
                return;
            }
            next();
            draft.addDoor(number(0, 9));
        }

        private void clashPair() {
            int d = number(0, draft.doings - 1);
            if (kind() == NUMBER && values[at] == d) {
                fail(3);
            }
            draft.addClash(d, number(0, draft.doings - 1));
        }

        private void lawBegins(Law law, boolean withSlip) {
            slipMayStand = withSlip;
            next();
            expect(':');
            law.clear();
        }

        // ---- laws: each reads one kind of part and writes its steps

        private void truth(Law law, int depth) {
            both(law, depth);
            for (int i = 0; i < TAPE_ROOM && kind() == OR; i++) {
                next();
                both(law, depth);
                law.step(Law.OR);
            }
        }

        private void both(Law law, int depth) {
            unit(law, depth);
            for (int i = 0; i < TAPE_ROOM && kind() == AND; i++) {
                next();
                unit(law, depth);
                law.step(Law.AND);
            }
        }

        private void unit(Law law, int depth) {
            int first = kind();
            if (first != NOT && first != '[') {
                compared(law, depth);
            } else if (depth >= DEEPEST) {
                fail(4);
            } else if (first == NOT) {
                negated(law, depth);
            } else {
                next();
                truth(law, depth + 1);
                expect(']');
            }
        }

        private void negated(Law law, int depth) {
            next();
            unit(law, depth + 1);
            law.step(Law.NOT);
        }

        private void compared(Law law, int depth) {
            sum(law, depth);
            int sign = kind();
            if (sign != '=' && sign != '<' && sign != '>') {
                fail(2);
                return;
            }
            next();
            sum(law, depth);
            law.step(sign == '=' ? Law.SAME : sign == '<' ? Law.LESS : Law.MORE);
        }

        private void sum(Law law, int depth) {
            term(law, depth);
            for (int i = 0; i < TAPE_ROOM && (kind() == '+' || kind() == '-'); i++) {
                int step = kind() == '+' ? Law.ADD : Law.TAKE;
                next();
                term(law, depth);
                law.step(step);
            }
        }

        private void term(Law law, int depth) {
            atom(law, depth);
            for (int i = 0; i < TAPE_ROOM && kind() == '*'; i++) {
                next();
                atom(law, depth);
                law.step(Law.TIMES);
            }
        }

        private void atom(Law law, int depth) {
            if (kind() == NUMBER) {
                law.step(number(0, 999));
                return;
            }
            if (kind() == '(') {
                bracketed(law, depth);
                return;
            }
            int step = stepOf(kind());
            if (step == 0 || step == Law.SLIP && !slipMayStand) {
                fail(2);
                return;
            }
            law.step(step);
            next();
        }

        private void bracketed(Law law, int depth) {
            if (depth >= DEEPEST) {
                fail(4);
                return;
            }
            next();
            sum(law, depth + 1);
            expect(')');
        }

        /** The step of a word that stands for a number, 0 for others. */
        private static int stepOf(int kind) {
            switch (kind) {
                case DOING: return Law.DOING;
                case SIZE: return Law.SIZE;
                case EDGE: return Law.EDGE;
                case HELD: return Law.HELD;
                case LEFT: return Law.LEFT;
                case SLIP: return Law.SLIP;
                default: return 0;
            }
        }
    }

    /** What deeds do, and fires, in THE LIFE. */
    private static final class World {
        private static final long WHOLE = 10000000000000000L;

        final Life life = new Life();
        // Both laws hang on the DOING, the lining and the SLIP alone: each is worked out once in a life.
        private final byte[] kept = new byte[MOST * SETS];
        private final int[] passed = new int[MOST * SETS];
        private final int[] given = new int[Law.GIVEN];

        void take(Life other) {
            life.copyFrom(other);
            Arrays.fill(kept, (byte) 0);
            Arrays.fill(passed, 0);
        }

        // ---- deeds: each answers the moment behind it, or less than 0 by why it can't be

        int tryDeed(int moment, long deed) {
            if (deed < 0 || deed > 49) {
                return -1;
            }
            int d = (int) deed % 10;
            switch ((int) deed / 10) {
                case TO_DO: return tryDo(moment, d);
                case TO_DROP: return tryDrop(moment, d);
                case TO_FORGE: return tryForge(moment, d);
                case TO_ASK: return tryAsk(moment, d);
                default: return stateIn(moment) | d << 16;
            }
        }

        int tryDo(int moment, int d) {
            if (!life.has(d)) {
                return -1;
            }
            int done = doneIn(moment);
            if ((done >> d & 1) == 1) {
                return -2;
            }
            if ((life.needs[d] & ~done) != 0) {
                return -3;
            }
            int gone = moment & ~(256 << d) | 1 << d;
            return keepsStub(d, liningIn(gone)) ? gone | 256 << d : gone;
        }

        int tryDrop(int moment, int d) {
            if (!life.has(d)) {
                return -1;
            }
            return (liningIn(moment) >> d & 1) == 0 ? -2 : moment & ~(256 << d);
        }

        private int tryForge(int moment, int d) {
            if (!life.has(d)) {
                return -1;
            }
            if ((notOpenIn(moment) >> d & 1) == 1) {
                return -2;
            }
            return life.roomLeft(liningIn(moment)) < life.size[d] ? -4 : moment | 256 << d;
        }

        int tryAsk(int moment, int d) {
            if (!life.has(d)) {
                return -1;
            }
            int mood = moodOf(moment, d);
            if (mood == OPEN || mood == SHOWN) {
                return moment;
            }
            if (mood == FORGED && passesStub(d, liningIn(moment), slipIn(moment))) {
                return moment;
            }
            int back = life.needing(d, doneIn(moment));
            return moment & ~(back | back << 8);
        }

        /** How many DEEDS of a TRAY can be, one behind the other. */
        int howMany(int moment, Tray deeds) {
            int then = moment;
            for (int i = 0; i < deeds.count; i++) {
                then = tryDeed(then, deeds.at(i));
                if (then < 0) {
                    return i;
                }
            }
            return deeds.count;
        }

        /** The moment behind the first n DEEDS of a TRAY, all of which can be. */
        int after(int moment, Tray deeds, int n) {
            int then = moment;
            for (int i = 0; i < n; i++) {
                then = tryDeed(then, deeds.at(i));
            }
            return then;
        }

        // ---- laws

        private boolean keepsStub(int d, int lining) {
            int spot = d * SETS + lining;
            if (spot < 0 || spot >= kept.length) {
                return false;
            }
            if (kept[spot] == 0) {
                give(d, lining, 0);
                boolean keeps = life.roomLeft(lining) >= life.size[d]
                        && (!life.keeps.told() || life.keeps.holds(given));
                kept[spot] = (byte) (keeps ? 2 : 1);
            }
            return kept[spot] == 2;
        }

        /** Of each SLIP one bit tells that it has been worked out, one 16 higher that the stub passes. */
        private boolean passesStub(int d, int lining, int slip) {
            int spot = d * SETS + lining;
            if (spot < 0 || spot >= passed.length || !life.passes.told()) {
                return false;
            }
            if ((passed[spot] >> slip & 1) == 0) {
                give(d, lining, slip);
                passed[spot] |= (life.passes.holds(given) ? 0x10001 : 1) << slip;
            }
            return (passed[spot] >> slip + 16 & 1) == 1;
        }

        int slipsPassing(int d, int lining) {
            int slips = 0;
            for (int slip = 0; slip < 10; slip++) {
                if (passesStub(d, lining, slip)) {
                    slips |= 1 << slip;
                }
            }
            return slips;
        }

        private void give(int d, int lining, int slip) {
            given[0] = d;
            given[1] = life.size[d];
            given[2] = life.edge[d];
            given[3] = Integer.bitCount(lining);
            given[4] = life.roomLeft(lining);
            given[5] = slip;
        }

        // ---- fires: how likely, in parts of WHOLE, 100 for each of the eight DOINGS there can be

        /** One still is done if neither it nor any that it needs is put back by itself. */
        long stillDone(int moment, int d) {
            int needed = life.needed(d);
            long parts = 1;
            for (int e = 0; e < MOST; e++) {
                parts *= (needed >> e & 1) == 1 ? 100 - lostInHundred(moment, e) : 100;
            }
            return parts;
        }

        private int lostInHundred(int moment, int d) {
            boolean stub = (liningIn(moment) >> d & 1) == 1;
            return life.asked[d] * (stub ? life.burns[d] : 10);
        }

        long sumDone(int moment) {
            long sum = 0;
            for (int d = 0; d < life.doings; d++) {
                if ((doneIn(moment) >> d & 1) == 1) {
                    sum += stillDone(moment, d);
                }
            }
            return sum;
        }

        /** Of parts of WHOLE in lowest terms, what 0: the number above, 1: below. */
        static long lowest(long parts, int what) {
            long a = WHOLE;
            long b = parts;
            for (int i = 0; i < 200 && b != 0; i++) {
                long rest = a % b;
                a = b;
                b = rest;
            }
            long common = Math.max(1, a);
            return what == 0 ? parts / common : WHOLE / common;
        }
    }

    /** All that can be by ROWS from one state on, in the order in which the fewest, first DEEDS come there. */
    private static final class Walk {
        private static final int START = 31;

        int count = 0;
        private int from = NONE;
        private int doings = 0;
        // As long as the lives so far need: 4 ways to be for each DOING.
        private int[] queue = new int[1];
        private int[] came = new int[1];
        private long[] ways = new long[1];
        private long[] more = new long[1];

        void forget() {
            for (int i = 0; i < count && i < queue.length; i++) {
                came[spot(queue[i])] = 0;
            }
            count = 0;
            from = NONE;
        }

        private int spot(int state) {
            int spot = doneIn(state) | liningIn(state) << doings;
            return spot < came.length ? spot : 0;
        }

        private void fit(int newDoings) {
            doings = Math.max(0, Math.min(MOST, newDoings));
            int states = 1 << 2 * doings;
            if (came.length < states) {
                queue = new int[states];
                came = new int[states];
            }
        }

        /** Counting alone asks for these. */
        private void fitWays() {
            if (ways.length < came.length) {
                ways = new long[came.length];
                more = new long[came.length];
            }
        }

        void spread(World world, int state) {
            if (state == from) {
                return;
            }
            forget();
            fit(world.life.doings);
            from = state;
            reach(state, 0, START);
            for (int head = 0; head < count && head < queue.length; head++) {
                int here = queue[head];
                for (int d = 0; d < doings; d++) {
                    reach(world.tryDo(here, d), here, d);
                }
                for (int d = 0; d < doings; d++) {
                    reach(world.tryDrop(here, d), here, 10 + d);
                }
            }
        }

        private void reach(int state, int before, int deed) {
            if (state >= 0 && came[spot(state)] == 0 && count < queue.length) {
                came[spot(state)] = 1 + deed + 32 * before;
                queue[count] = state;
                count++;
            }
        }

        int toDone(World world, int state, int set) {
            spread(world, state);
            for (int i = 0; i < count && i < queue.length; i++) {
                if ((set & ~doneIn(queue[i])) == 0) {
                    return queue[i];
                }
            }
            return NONE;
        }

        int toShown(World world, int state, int set) {
            spread(world, state);
            for (int i = 0; i < count && i < queue.length; i++) {
                if ((set & ~shownIn(queue[i])) == 0) {
                    return queue[i];
                }
            }
            return NONE;
        }

        /** How many DEEDS come to a state. */
        int length(int goal) {
            int state = goal;
            for (int n = 0; n < queue.length && state >= 0; n++) {
                if (deedTo(state) == START) {
                    return n;
                }
                state = stateBefore(state);
            }
            return NONE;
        }

        int deedAt(int goal, int i) {
            int last = length(goal) - 1;
            if (i < 0 || i > last) {
                return NONE;
            }
            int state = goal;
            for (int n = last; n > i; n--) {
                state = stateBefore(state);
            }
            return deedTo(state);
        }

        private int deedTo(int state) {
            return came[spot(state)] - 1 & 31;
        }

        private int stateBefore(int state) {
            return came[spot(state)] - 1 >> 5;
        }

        int mostShown(World world, int state) {
            spread(world, state);
            int most = 0;
            for (int i = 0; i < count && i < queue.length; i++) {
                most = Math.max(most, Integer.bitCount(shownIn(queue[i])));
            }
            return most;
        }

        long rowsTo(World world, int state, int set, int n) {
            spread(world, state);
            fitWays();
            for (int i = 0; i < count && i < queue.length; i++) {
                ways[spot(queue[i])] = 0;
            }
            ways[spot(state)] = 1;
            for (int step = 0; step < n; step++) {
                goOneOn(world);
            }
            long sum = 0;
            for (int i = 0; i < count && i < queue.length; i++) {
                if ((set & ~shownIn(queue[i])) == 0) {
                    sum += ways[spot(queue[i])];
                }
            }
            return sum;
        }

        private void goOneOn(World world) {
            for (int i = 0; i < count && i < queue.length; i++) {
                more[spot(queue[i])] = 0;
            }
            for (int i = 0; i < count && i < queue.length; i++) {
                long by = ways[spot(queue[i])];
                for (int d = 0; d < doings && by != 0; d++) {
                    addWays(world.tryDo(queue[i], d), by);
                    addWays(world.tryDrop(queue[i], d), by);
                }
            }
            long[] used = ways;
            ways = more;
            more = used;
        }

        private void addWays(int state, long by) {
            if (state >= 0) {
                more[spot(state)] += by;
            }
        }
    }

    /** In which orders what is done can have been done. */
    private static final class Orders {
        private final int[] before = new int[MOST];
        private final int[] ways = new int[SETS];
        private int done = 0;

        void begin(Life life, int nowDone) {
            done = nowDone;
            System.arraycopy(life.needs, 0, before, 0, MOST);
        }

        /** False if the number isn't two done ones. */
        boolean tellNumber(long v) {
            if (v < 0 || v > 99) {
                return false;
            }
            int d = (int) v / 10;
            int e = (int) v % 10;
            if (d == e || (done >> d & 1) == 0 || (done >> e & 1) == 0) {
                return false;
            }
            tell(d, e);
            return true;
        }

        void tell(int d, int e) {
            if (e >= 0 && e < MOST) {
                before[e] |= 1 << d;
            }
        }

        int total() {
            ways[0] = 1;
            for (int set = 1; set < SETS; set++) {
                ways[set] = 0;
                for (int d = 0; d < MOST && (set & ~done) == 0; d++) {
                    int rest = set & ~(1 << d);
                    if (rest != set && (before[d] & ~rest) == 0) {
                        ways[set] += ways[rest];
                    }
                }
            }
            return ways[done & SETS - 1];
        }

        int firstAt(int i) {
            if (i < 0 || i >= Integer.bitCount(done) || total() == 0) {
                return NONE;
            }
            int so = 0;
            int latest = NONE;
            for (int n = 0; n <= i && n < MOST; n++) {
                latest = firstBehind(so);
                so |= latest < 0 ? 0 : 1 << latest;
            }
            return latest;
        }

        private int firstBehind(int so) {
            for (int d = 0; d < MOST; d++) {
                if ((done & ~so & 1 << d) != 0 && (before[d] & ~so) == 0) {
                    return d;
                }
            }
            return NONE;
        }
    }

    /** Done ones kept apart, or all in each other's way. */
    private static final class Clashes {
        private final int[] lining = new int[MOST];

        /** How many LININGS are needed; in which each is stays to be asked for. */
        int part(Life life, int done) {
            for (int count = 0; count <= MOST; count++) {
                if (place(lining, life, done, 0, 0, count)) {
                    return count;
                }
            }
            return NONE;
        }

        int liningOf(int d) {
            return d >= 0 && d < MOST ? lining[d] : NONE;
        }

        /** One used so far, or the next: a later one is never the first of like ones. */
        private static boolean place(int[] lining, Life life, int done, int d, int used, int count) {
            if (d >= MOST || d >= lining.length) {
                return true;
            }
            if ((done >> d & 1) == 0) {
                lining[d] = NONE;
                return place(lining, life, done, d + 1, used, count);
            }
            for (int to = 0; to <= used && to < count; to++) {
                lining[d] = to;
                if (fits(lining, life, d) && place(lining, life, done, d + 1, Math.max(used, to + 1), count)) {
                    return true;
                }
            }
            return false;
        }

        private static boolean fits(int[] lining, Life life, int d) {
            for (int e = 0; e < d; e++) {
                if (lining[e] == lining[d] && (life.clash[d] >> e & 1) == 1) {
                    return false;
                }
            }
            return true;
        }

        int greatest(Life life, int done) {
            int best = 0;
            for (int set = 1; set < SETS; set++) {
                if ((set & ~done) == 0 && Integer.bitCount(set) > Integer.bitCount(best) && allClash(life, set)) {
                    best = set;
                }
            }
            return best;
        }

        private static boolean allClash(Life life, int set) {
            for (int d = 0; d < MOST; d++) {
                int others = set & ~(1 << d);
                if (others != set && (others & ~life.clash[d]) != 0) {
                    return false;
                }
            }
            return true;
        }
    }

    /** One against an officer. Moves: 0 to 7 to DO, 8 to 15 to DROP, 16 neither. */
    private static final class Turns {
        private static final int MOST_TURNS = 3;
        private static final int NEITHER = 2 * MOST;
        private static final int NEITHER_DEED = 99;

        static int fewest(World world, int moment, int set) {
            for (int turns = 0; turns <= MOST_TURNS; turns++) {
                if (wins(world, moment, set, turns)) {
                    return turns;
                }
            }
            return NONE;
        }

        /** The first DEED by which one wins within so many turns, NONE if there are no turns. */
        static int firstDeed(World world, int moment, int set, int turns) {
            for (int move = 0; move <= NEITHER && turns > 0; move++) {
                int next = moved(world, moment, move);
                if (next >= 0 && withstands(world, next, set, turns - 1)) {
                    return deedOf(move);
                }
            }
            return NONE;
        }

        private static int deedOf(int move) {
            if (move == NEITHER) {
                return NEITHER_DEED;
            }
            return move < MOST ? move : move - MOST + 10;
        }

        private static int moved(World world, int moment, int move) {
            if (move == NEITHER) {
                return moment;
            }
            return move < MOST ? world.tryDo(moment, move) : world.tryDrop(moment, move - MOST);
        }

        private static boolean wins(World world, int moment, int set, int turns) {
            int missing = Integer.bitCount(set & ~shownIn(moment));
            // A turn shows one more at most, an officer none.
            if (missing == 0 || missing > turns) {
                return missing == 0;
            }
            for (int move = 0; move <= NEITHER; move++) {
                int next = moved(world, moment, move);
                if (next >= 0 && withstands(world, next, set, turns - 1)) {
                    return true;
                }
            }
            return false;
        }

        /** Behind a turn: all are SHOWN, or whatever the officer asks for one wins in the turns left. */
        private static boolean withstands(World world, int moment, int set, int turns) {
            if ((set & ~shownIn(moment)) == 0) {
                return true;
            }
            if (!wins(world, moment, set, turns)) {
                return false;
            }
            for (int d = 0; d < MOST; d++) {
                int next = world.tryAsk(moment, d);
                if (next >= 0 && next != moment && !wins(world, next, set, turns)) {
                    return false;
                }
            }
            return true;
        }
    }
}
