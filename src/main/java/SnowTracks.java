import java.util.Arrays;
import java.util.NoSuchElementException;

/** Tracks in snow. What each call answers is promised, by number, in the document. */
public final class SnowTracks {
    public static final int NONE = -1;
    public static final int HIDDEN = -100000;

    private static final int MOST_WALKS = 8;
    private static final int MOST_ROWED = 6;
    private static final int MOST_MOMENT = 60;
    private static final int MOST_FACTS = 20;
    private static final int MOST_CORED = 12;
    private static final int MOST_SNOWS = 8;
    private static final int MOST_TICK = 5000;
    private static final int MOST_BYTES = 160;
    private static final int MOST_OPEN = 3;
    private static final int CELLS = 256;

    private static final int GROUND = -1;
    private static final int PERSONS = 6;

    private static final int ABOVE = 0;
    private static final int FRESH = 1;
    private static final int COVERED = 2;
    private static final int BEGAN = 3;
    private static final int BEHIND = 4;

    /** Farther than two STARTS can ever lie apart: a bound that binds nothing. */
    private static final int FAR = 1000000;

    /** The point of a net that stands for tick 0; WALK w has the point w + 1. */
    private static final int DAWN = 0;
    private static final int POINTS = MOST_WALKS + 1;

    private final int wide;
    private final int deep;
    private final int day;
    private final Tape tape = new Tape();
    private final Player player;
    private final Walk[] walks = new Walk[MOST_WALKS];
    private int walkCount = 0;
    private final Fact[] facts = new Fact[MOST_FACTS];
    private int factCount = 0;
    private final int[] snows = new int[MOST_SNOWS];
    private int snowCount = 0;
    /** The net of the SET that was asked last. */
    private final Net net = new Net();
    private final CoreSearch coreSearch = new CoreSearch();
    private final ChainSearch chainSearch = new ChainSearch();
    private final RowSearch rowSearch = new RowSearch();
    private final Glance glance = new Glance();
    private final int[] shownTicks = new int[CELLS];
    private final int[] shownWalks = new int[CELLS];

    public SnowTracks(int wide, int deep, int day) {
        this.wide = Math.max(2, Math.min(16, wide));
        this.deep = Math.max(2, Math.min(16, deep));
        this.day = Math.max(10, Math.min(2000, day));
        player = new Player(this.wide, this.deep);
        for (int i = 0; i < facts.length; i++) {
            facts[i] = new Fact();
        }
    }

    // ---- the TAPE and the WALKS

    public int feed(int a, int b, int c, int d, int e) {
        int before = tape.size;
        boolean taken = tape.append(a) && tape.append(b) && tape.append(c)
                && tape.append(d) && tape.append(e);
        if (!taken) {
            tape.cut(before);
            return NONE;
        }
        return tape.size;
    }

    public boolean end(int n) {
        return tape.cut(n);
    }

    public int fault() {
        return tape.wrongAt(wide, deep);
    }

    public int walk(int pace, int boot) {
        boolean bounded = pace >= 1 && pace <= 9 && boot >= 0 && boot <= 9;
        if (!bounded || walkCount >= MOST_WALKS || tape.wrongAt(wide, deep) != NONE) {
            return NONE;
        }
        Walk made = new Walk(pace, boot, cellAt(tape.x, tape.y));
        player.play(tape, made);
        made.listPlaces();
        tape.cut(0);
        walks[walkCount] = made;
        walkCount++;
        return walkCount - 1;
    }

    public int told(int walk, int what) throws NoSuchElementException {
        Walk w = walkOf(walk);
        if (w == null) {
            throw new NoSuchElementException();
        }
        switch (what) {
            case 0:
                return w.last;
            case 1:
                return w.pace;
            case 2:
                return w.boot;
            case 3:
                return w.printCount;
            case 4:
                return w.begun;
            default:
                throw new NoSuchElementException();
        }
    }

    public int where(int walk, int moment) {
        Walk w = walkOf(walk);
        return w == null ? NONE : w.cellOf(moment);
    }

    public int latest(int walk, int x, int y) {
        Walk w = walkOf(walk);
        return w == null ? NONE : w.latestIn(cellAt(x, y));
    }

    public int prints(int x, int y) {
        int cell = cellAt(x, y);
        if (cell == NONE) {
            return NONE;
        }
        int bits = 0;
        for (int i = 0; i < walkCount; i++) {
            if (printsIn(i, cell)) {
                bits |= 1 << i;
            }
        }
        return bits;
    }

    // ---- the FACTS

    public int fact(int who, int kind, int a, int b, int x, int y) {
        if (!isWho(who) || walkOf(a) == null || factCount >= MOST_FACTS) {
            return NONE;
        }
        switch (kind) {
            case ABOVE:
                return tellAbove(who, a, b, cellAt(x, y));
            case FRESH:
            case COVERED:
                return tellPrint(who, kind, a, b, cellAt(x, y));
            case BEGAN:
                return tellBegan(who, a, x, y);
            case BEHIND:
                return tellBehind(who, a, b, x);
            default:
                return NONE;
        }
    }

    public int undo() {
        if (factCount == 0) {
            return NONE;
        }
        factCount--;
        return factCount;
    }

    public int words(int who) {
        if (!isWho(who)) {
            return NONE;
        }
        int bits = 0;
        for (int i = 0; i < factCount; i++) {
            if (facts[i].who == who) {
                bits |= 1 << i;
            }
        }
        return bits;
    }

    // ---- what CAN be

    public int can(int set) {
        if (!isSet(set)) {
            return NONE;
        }
        return drawNet(set) == NONE ? 1 : 0;
    }

    public int bars(int set) {
        return isSet(set) ? drawNet(set) : NONE;
    }

    public int core(int set) {
        if (!isSet(set) || Integer.bitCount(set) > MOST_CORED || drawNet(set) == NONE) {
            return NONE;
        }
        net.clear(walkCount, day);
        return coreSearch.fewest(net, facts, factCount, set);
    }

    public int liars(int set) {
        if (!isSet(set) || drawNet(set) == NONE || drawNet(withoutWords(set, -1)) != NONE) {
            return NONE;
        }
        int speakers = speakersOf(set);
        int best = speakers;
        for (int tried = 1; tried < 1 << PERSONS; tried++) {
            boolean worthTrying = (tried & ~speakers) == 0 && isBlamedBefore(tried, best);
            if (worthTrying && drawNet(withoutWords(set, tried)) == NONE) {
                best = tried;
            }
        }
        return best;
    }

    public int begins(int set, int walk, int what) {
        if (what < 0 || what > 1 || walkOf(walk) == null || !canBe(set)) {
            return NONE;
        }
        return what == 0 ? net.firstOf(walk) : net.lastOf(walk);
    }

    public int gap(int set, int a, int b, int what) {
        boolean asked = what >= 0 && what <= 1 && walkOf(a) != null && walkOf(b) != null;
        if (!asked || !canBe(set)) {
            return HIDDEN;
        }
        return what == 0 ? net.leastGap(a, b) : net.greatestGap(a, b);
    }

    // ---- CROSSINGS, and what is SURE of them

    public int crossings(int a, int b, int i) {
        Walk p = walkOf(a);
        Walk q = walkOf(b);
        if (p == null || q == null || a == b || i < NONE) {
            return NONE;
        }
        int found = 0;
        for (int place = 0; place < p.placeCount; place++) {
            if (q.latestIn(p.places[place]) != NONE) {
                if (found == i) {
                    return p.places[place];
                }
                found++;
            }
        }
        return i == NONE ? found : NONE;
    }

    public int sure(int set, int a, int b, int x, int y) {
        int cell = cellAt(x, y);
        if (!isCrossing(a, b, cell) || !canBe(set)) {
            return NONE;
        }
        return verdict(a, b, leadToLieAbove(a, b, cell));
    }

    public int ahead(int set, int a, int b) {
        if (walkOf(a) == null || walkOf(b) == null || !canBe(set)) {
            return NONE;
        }
        return verdict(b, a, 1);
    }

    public int span(int set) {
        return canBe(set) ? net.wholeSpan() : NONE;
    }

    public int look(int set, int what) {
        if (what < 0 || what > 3 || !canBe(set)) {
            return NONE;
        }
        glance.clear();
        for (int a = 0; a < walkCount; a++) {
            for (int b = a + 1; b < walkCount; b++) {
                lookAtPair(a, b);
            }
        }
        switch (what) {
            case 0:
                return glance.a;
            case 1:
                return glance.b;
            case 2:
                return glance.cell;
            default:
                return glance.widest;
        }
    }

    public int meets(int set, int a, int b) {
        Walk p = walkOf(a);
        Walk q = walkOf(b);
        if (p == null || q == null || a == b || !canBe(set)) {
            return NONE;
        }
        int least = net.leastGap(a, b);
        int greatest = net.greatestGap(a, b);
        int pairs = 0;
        for (int i = 0; i <= p.last; i++) {
            for (int j = 0; j <= q.last; j++) {
                int gapAtMeeting = p.pace * i - q.pace * j;
                boolean mayBe = gapAtMeeting >= least && gapAtMeeting <= greatest;
                if (mayBe && p.cellOf(i) == q.cellOf(j)) {
                    pairs++;
                }
            }
        }
        return pairs;
    }

    public int one(int set, int a, int b) {
        Walk p = walkOf(a);
        Walk q = walkOf(b);
        if (p == null || q == null || a == b || !canBe(set)) {
            return NONE;
        }
        if (p.boot != q.boot) {
            return 0;
        }
        int forth = net.greatestGap(a, b) > p.ticksToEnd() ? 1 : 0;
        int back = net.greatestGap(b, a) > q.ticksToEnd() ? 2 : 0;
        return forth + back;
    }

    public int walkers(int set) {
        if (walkCount > MOST_ROWED || !canBe(set)) {
            return NONE;
        }
        return walkCount - chainSearch.mostLinks(net, walks, walkCount);
    }

    // ---- STARTS told by hand, SNOWS

    public boolean start(int walk, int tick) {
        Walk w = walkOf(walk);
        if (w == null || tick < 0 || tick > day) {
            return false;
        }
        w.begun = tick;
        return true;
    }

    public int judge(int set) {
        if (!isSet(set)) {
            return NONE;
        }
        for (int i = 0; i < factCount; i++) {
            if (isIn(set, i)) {
                int gapTold = startAt(facts[i].over) - startAt(facts[i].under);
                if (gapTold < facts[i].least || gapTold > facts[i].most) {
                    return i;
                }
            }
        }
        return NONE;
    }

    public int top(int x, int y) {
        int cell = cellAt(x, y);
        int best = NONE;
        int bestTick = NONE;
        for (int i = 0; i < walkCount; i++) {
            Walk w = walks[i];
            if (w != null && w.latestIn(cell) != NONE && w.tickOf(w.latestIn(cell)) > bestTick) {
                best = i;
                bestTick = w.tickOf(w.latestIn(cell));
            }
        }
        return best;
    }

    public boolean settle(int set) {
        if (!canBe(set)) {
            return false;
        }
        for (int i = 0; i < walkCount; i++) {
            Walk w = walks[i];
            if (w != null) {
                w.begun = net.firstOf(i);
            }
        }
        return true;
    }

    public int snow(int tick) {
        if (!isTick(tick) || snowCount >= MOST_SNOWS) {
            return NONE;
        }
        snows[snowCount] = tick;
        snowCount++;
        return snowCount;
    }

    public int shown(int x, int y, int tick) {
        int cell = cellAt(x, y);
        if (cell == NONE || !isTick(tick)) {
            return NONE;
        }
        showAll(tick);
        return shownWalks[cell];
    }

    public int trail(int walk, int tick) {
        if (walkOf(walk) == null || !isTick(tick)) {
            return NONE;
        }
        showAll(tick);
        int cells = 0;
        for (int cell = 0; cell < CELLS; cell++) {
            if (shownWalks[cell] == walk) {
                cells++;
            }
        }
        return cells;
    }

    // ---- ORDERS, PHOTOS, counts

    public int orders(int set, int i) {
        if (i < NONE || walkCount > MOST_ROWED || !canBe(set)) {
            return NONE;
        }
        rowSearch.seek(net, walkCount, i);
        return i == NONE ? rowSearch.counted : rowSearch.found;
    }

    public int photo(int who, int walk, int x, int y) {
        int cell = cellAt(x, y);
        if (!isWho(who) || !printsIn(walk, cell)) {
            return NONE;
        }
        int others = Integer.bitCount(prints(x, y)) - 1;
        if (factCount + others > MOST_FACTS) {
            return NONE;
        }
        for (int other = 0; other < walkCount; other++) {
            tellAbove(who, walk, other, cell);
        }
        return factCount;
    }

    public int count(int what) {
        switch (what) {
            case 0:
                return walkCount;
            case 1:
                return factCount;
            case 2:
                return tape.size;
            case 3:
                return wide;
            case 4:
                return deep;
            case 5:
                return day;
            case 6:
                return snowCount;
            default:
                return NONE;
        }
    }

    // ---- what is there, and what is not

    private Walk walkOf(int walk) {
        return walk >= 0 && walk < walkCount ? walks[walk] : null;
    }

    private int cellAt(int x, int y) {
        boolean within = x >= 0 && x < wide && y >= 0 && y < deep;
        return within ? 16 * y + x : NONE;
    }

    private boolean printsIn(int walk, int cell) {
        Walk w = walkOf(walk);
        return w != null && w.latestIn(cell) != NONE;
    }

    private boolean isCrossing(int a, int b, int cell) {
        return a != b && printsIn(a, cell) && printsIn(b, cell);
    }

    private boolean isSet(int set) {
        return set >>> factCount == 0;
    }

    private static boolean isIn(int set, int number) {
        return (set >>> number & 1) != 0;
    }

    private static boolean isWho(int who) {
        return who >= GROUND && who < PERSONS;
    }

    private static boolean isTick(int tick) {
        return tick >= 0 && tick <= MOST_TICK;
    }

    private static int pointOf(int walk) {
        return walk + 1;
    }

    private int startAt(int point) {
        Walk w = walkOf(point - 1);
        return w == null ? 0 : w.begun;
    }

    // ---- telling FACTS

    private int tellAbove(int who, int a, int b, int cell) {
        if (!isCrossing(a, b, cell)) {
            return NONE;
        }
        return keep(who, pointOf(a), pointOf(b), leadToLieAbove(a, b, cell), FAR);
    }

    private int tellPrint(int who, int kind, int a, int tick, int cell) {
        Walk w = walkOf(a);
        if (w == null || w.latestIn(cell) == NONE || !isTick(tick)) {
            return NONE;
        }
        int most = tick - w.pace * w.latestIn(cell);
        if (kind == FRESH) {
            return keep(who, pointOf(a), DAWN, most + 1, FAR);
        }
        return keep(who, pointOf(a), DAWN, -FAR, most);
    }

    private int tellBegan(int who, int a, int from, int to) {
        if (from < 0 || to > day || to < from) {
            return NONE;
        }
        return keep(who, pointOf(a), DAWN, from, to);
    }

    private int tellBehind(int who, int a, int b, int ticks) {
        if (a == b || walkOf(b) == null || ticks < -MOST_TICK || ticks > MOST_TICK) {
            return NONE;
        }
        return keep(who, pointOf(a), pointOf(b), ticks, FAR);
    }

    private int keep(int who, int over, int under, int least, int most) {
        if (factCount >= MOST_FACTS) {
            return NONE;
        }
        facts[factCount].tell(who, over, under, least, most);
        factCount++;
        return factCount - 1;
    }

    /** By how much a must begin later than b, at least, for its LATEST PRINT to lie above. */
    private int leadToLieAbove(int a, int b, int cell) {
        Walk p = walkOf(a);
        Walk q = walkOf(b);
        if (p == null || q == null) {
            return FAR;
        }
        return q.pace * q.latestIn(cell) - p.pace * p.latestIn(cell) + 1;
    }

    // ---- nets

    /** Draws the net of a SET: the first FACT that it can not take, or NONE. */
    private int drawNet(int set) {
        net.clear(walkCount, day);
        for (int i = 0; i < factCount; i++) {
            if (isIn(set, i) && !net.takes(facts[i])) {
                return i;
            }
        }
        return NONE;
    }

    private boolean canBe(int set) {
        return isSet(set) && drawNet(set) == NONE;
    }

    /** 1: a begins so much later than b for sure; 0: it does not, for sure; NONE: open. */
    private int verdict(int a, int b, int lead) {
        if (net.leastGap(b, a) >= lead) {
            return 1;
        }
        return net.greatestGap(b, a) < lead ? 0 : NONE;
    }

    private int withoutWords(int set, int persons) {
        int left = set;
        for (int i = 0; i < factCount; i++) {
            if (facts[i].who != GROUND && isIn(persons, facts[i].who)) {
                left &= ~(1 << i);
            }
        }
        return left;
    }

    private int speakersOf(int set) {
        int persons = 0;
        for (int i = 0; i < factCount; i++) {
            if (isIn(set, i) && facts[i].who != GROUND) {
                persons |= 1 << facts[i].who;
            }
        }
        return persons;
    }

    /** Fewer come first; of as many, those with the lowest PERSON that is not in both. */
    private static boolean isBlamedBefore(int some, int others) {
        int fewer = Integer.bitCount(some) - Integer.bitCount(others);
        int differing = some ^ others;
        int lowest = differing & -differing;
        return fewer < 0 || fewer == 0 && (some & lowest) != 0;
    }

    private void lookAtPair(int a, int b) {
        Walk p = walkOf(a);
        if (p == null) {
            return;
        }
        for (int place = 0; place < p.placeCount; place++) {
            if (isCrossing(a, b, p.places[place])) {
                lookAtCrossing(a, b, p.places[place]);
            }
        }
    }

    private void lookAtCrossing(int a, int b, int cell) {
        int lead = leadToLieAbove(a, b, cell);
        if (verdict(a, b, lead) != NONE) {
            return;
        }
        int above = net.spanWith(pointOf(a), pointOf(b), lead);
        // one SPAN that is too great already spares the other
        if (glance.isBetter(above)) {
            int below = net.spanWith(pointOf(b), pointOf(a), leadToLieAbove(b, a, cell));
            glance.offer(a, b, cell, Math.max(above, below));
        }
    }

    // ---- SNOW

    private int latestSnow(int tick) {
        int latest = NONE;
        for (int i = 0; i < snowCount; i++) {
            if (snows[i] <= tick && snows[i] > latest) {
                latest = snows[i];
            }
        }
        return latest;
    }

    /** Lays the PRINTS one over another; of two at one tick the lower WALK's, laid first, stays. */
    private void showAll(int tick) {
        Arrays.fill(shownTicks, NONE);
        Arrays.fill(shownWalks, NONE);
        int covered = latestSnow(tick);
        for (int i = 0; i < walkCount; i++) {
            Walk w = walks[i];
            if (w != null) {
                showWalk(i, w, covered, tick);
            }
        }
    }

    private void showWalk(int number, Walk w, int covered, int tick) {
        for (int moment = 0; moment <= w.last; moment++) {
            int cell = w.cellOf(moment);
            int made = w.tickOf(moment);
            boolean seen = w.isPrint(moment) && made > covered && made <= tick;
            if (seen && cell != NONE && made > shownTicks[cell]) {
                shownTicks[cell] = made;
                shownWalks[cell] = number;
            }
        }
    }

    /**
     * The bytes that came and are no WALK yet. A reading that fails stops at the wrong byte;
     * one that does not leaves behind where the WALK begins and where its MOVES do.
     */
    private static final class Tape {
        private final int[] bytes = new int[MOST_BYTES];
        private int size = 0;
        private int at = 0;
        private int number = 0;
        private int x = 0;
        private int y = 0;
        private int movesAt = 0;

        /** 0, which never is on the TAPE, stands behind its end. */
        int byteAt(int place) {
            return place >= 0 && place < size ? bytes[place] : 0;
        }

        boolean cut(int n) {
            if (n < 0 || n > size) {
                return false;
            }
            size = n;
            return true;
        }

        boolean append(int four) {
            for (int shift = 24; shift >= 0; shift -= 8) {
                int one = four >>> shift & 255;
                if (one != 0) {
                    if (size >= bytes.length) {
                        return false;
                    }
                    bytes[size] = one;
                    size++;
                }
            }
            return true;
        }

        int wrongAt(int wide, int deep) {
            at = 0;
            if (!reads('@') || !readsNumber(wide)) {
                return at;
            }
            x = number;
            if (!reads(',') || !readsNumber(deep)) {
                return at;
            }
            y = number;
            movesAt = at;
            return readsMoves() ? NONE : at;
        }

        private void skipBlanks() {
            while (at < size && byteAt(at) == ' ') {
                at++;
            }
        }

        private boolean reads(char sign) {
            skipBlanks();
            if (byteAt(at) != sign) {
                return false;
            }
            at++;
            return true;
        }

        private boolean readsNumber(int bound) {
            skipBlanks();
            if (!isDigit(byteAt(at))) {
                return false;
            }
            number = byteAt(at) - '0';
            if (isDigit(byteAt(at + 1))) {
                at++;
                number = 10 * number + byteAt(at) - '0';
            }
            if (number >= bound) {
                return false;
            }
            at++;
            return !isDigit(byteAt(at));
        }

        private boolean readsMoves() {
            int open = 0;
            boolean some = false;
            boolean repeated = false;
            for (; at < size; at++) {
                int sign = byteAt(at);
                if (isMove(sign)) {
                    some = true;
                    repeated = false;
                } else if (sign >= '2' && sign <= '9' && !repeated) {
                    repeated = true;
                } else if (sign == '(' && open < MOST_OPEN) {
                    open++;
                    some = false;
                    repeated = false;
                } else if (sign == ')' && open > 0 && some && !repeated) {
                    open--;
                } else if (sign != ' ') {
                    return false;
                }
            }
            return open == 0 && some && !repeated;
        }

        private static boolean isDigit(int sign) {
            return sign >= '0' && sign <= '9';
        }

        private static boolean isMove(int sign) {
            return sign == 'n' || sign == 'e' || sign == 's' || sign == 'w'
                    || sign == 'z' || sign == 'b';
        }
    }

    /** Walks the moves of a TAPE that is a WALK. */
    private static final class Player {
        /** Far above the bytes that can be read until 60 MOMENTS are walked. */
        private static final int MOST_READ = 1000000;

        private final int wide;
        private final int deep;
        /** The CELLS that STEPS not gone back over yet came from. */
        private final int[] left = new int[MOST_MOMENT];
        private int leftCount = 0;
        private final int[] againFrom = new int[MOST_OPEN];
        private final int[] againTimes = new int[MOST_OPEN];

        Player(int wide, int deep) {
            this.wide = wide;
            this.deep = deep;
        }

        void play(Tape tape, Walk walk) {
            leftCount = 0;
            int at = tape.movesAt;
            int open = 0;
            int times = 1;
            for (int i = 0; i < MOST_READ && at < tape.size && walk.last < MOST_MOMENT; i++) {
                int sign = tape.byteAt(at);
                at++;
                if (sign >= '2' && sign <= '9') {
                    times = sign - '0';
                } else if (sign == '(') {
                    if (open < MOST_OPEN) {
                        againFrom[open] = at;
                        againTimes[open] = times - 1;
                        open++;
                    }
                    times = 1;
                } else if (sign == ')') {
                    if (open > 0 && againTimes[open - 1] > 0) {
                        againTimes[open - 1]--;
                        at = againFrom[open - 1];
                    } else if (open > 0) {
                        open--;
                    }
                } else if (sign != ' ') {
                    for (int time = 0; time < times; time++) {
                        move(walk, sign);
                    }
                    times = 1;
                }
            }
        }

        private void move(Walk walk, int sign) {
            int cell = walk.cellOf(walk.last);
            if (sign == 'b') {
                if (leftCount > 0) {
                    leftCount--;
                    cell = left[leftCount];
                }
                walk.come(cell);
                return;
            }
            int next = nextCell(cell, sign);
            if (next != cell && leftCount < left.length) {
                left[leftCount] = cell;
                leftCount++;
            }
            walk.come(next);
        }

        private int nextCell(int cell, int sign) {
            int x = cell & 15;
            int y = cell >> 4;
            if (sign == 'n' && y > 0) {
                return cell - 16;
            }
            if (sign == 's' && y < deep - 1) {
                return cell + 16;
            }
            if (sign == 'w' && x > 0) {
                return cell - 1;
            }
            if (sign == 'e' && x < wide - 1) {
                return cell + 1;
            }
            return cell;
        }
    }

    /** Where one went, and which PRINTS that left. */
    private static final class Walk {
        private final int pace;
        private final int boot;
        private final int[] cells = new int[MOST_MOMENT + 1];
        private final int[] latestMoments = new int[CELLS];
        /** The CELLS with its PRINTS, rising. */
        private final int[] places = new int[MOST_MOMENT + 1];
        private int placeCount = 0;
        private int last = 0;
        private int printCount = 0;
        /** The START told by hand. */
        private int begun = 0;

        Walk(int pace, int boot, int cell) {
            this.pace = pace;
            this.boot = boot;
            Arrays.fill(latestMoments, NONE);
            cells[0] = cell;
            leavePrint();
        }

        void come(int cell) {
            if (last < MOST_MOMENT) {
                last++;
                cells[last] = cell;
                if (cell != cells[last - 1]) {
                    leavePrint();
                }
            }
        }

        private void leavePrint() {
            int cell = cells[last];
            if (cell >= 0 && cell < CELLS) {
                latestMoments[cell] = last;
                printCount++;
            }
        }

        void listPlaces() {
            placeCount = 0;
            for (int cell = 0; cell < CELLS && placeCount < places.length; cell++) {
                if (latestMoments[cell] != NONE) {
                    places[placeCount] = cell;
                    placeCount++;
                }
            }
        }

        int cellOf(int moment) {
            return moment >= 0 && moment <= last ? cells[moment] : NONE;
        }

        int latestIn(int cell) {
            return cell >= 0 && cell < CELLS ? latestMoments[cell] : NONE;
        }

        boolean isPrint(int moment) {
            return cellOf(moment) != cellOf(moment - 1);
        }

        int tickOf(int moment) {
            return begun + pace * moment;
        }

        int ticksToEnd() {
            return pace * last;
        }
    }

    /** That the START at one point less that at another is within two bounds. */
    private static final class Fact {
        private int who = GROUND;
        private int over = DAWN;
        private int under = DAWN;
        private int least = -FAR;
        private int most = FAR;

        void tell(int who, int over, int under, int least, int most) {
            this.who = who;
            this.over = over;
            this.under = under;
            this.least = least;
            this.most = most;
        }
    }

    /**
     * For each two points the least that the second can be above the first. It is kept closed
     * (no way over other points tells more), so that each bound can be reached by some STARTS.
     */
    private static final class Net {
        private final int[] gaps = new int[POINTS * POINTS];
        private int points = 1;

        void clear(int walks, int day) {
            points = Math.min(walks + 1, POINTS);
            for (int from = 0; from < points; from++) {
                for (int to = 0; to < points; to++) {
                    gaps[from * POINTS + to] = from == to || from == DAWN ? 0 : -day;
                }
            }
        }

        void copy(Net other) {
            points = other.points;
            System.arraycopy(other.gaps, 0, gaps, 0, gaps.length);
        }

        boolean isPoint(int point) {
            return point >= 0 && point < points;
        }

        int least(int from, int to) {
            return isPoint(from) && isPoint(to) ? gaps[from * POINTS + to] : -FAR;
        }

        boolean takes(Fact fact) {
            return takesGap(fact.over, fact.under, fact.least)
                    && takesGap(fact.under, fact.over, -fact.most);
        }

        boolean fits(int over, int under, int gap) {
            return isPoint(over) && isPoint(under) && gaps[over * POINTS + under] + gap <= 0;
        }

        boolean takesGap(int over, int under, int gap) {
            if (!fits(over, under, gap)) {
                return false;
            }
            if (gap <= least(under, over)) {
                return true;
            }
            for (int from = 0; from < points; from++) {
                int reached = least(from, under) + gap;
                // where over itself comes no nearer, nothing behind it does
                if (reached > least(from, over)) {
                    widen(from * POINTS, over * POINTS, reached);
                }
            }
            return true;
        }

        private void widen(int row, int overRow, int reached) {
            for (int to = 0; to < points; to++) {
                int through = reached + gaps[overRow + to];
                if (through > gaps[row + to]) {
                    gaps[row + to] = through;
                }
            }
        }

        int leastGap(int a, int b) {
            return least(pointOf(a), pointOf(b));
        }

        int greatestGap(int a, int b) {
            return -least(pointOf(b), pointOf(a));
        }

        int firstOf(int walk) {
            return least(DAWN, pointOf(walk));
        }

        int lastOf(int walk) {
            return -least(pointOf(walk), DAWN);
        }

        int wholeSpan() {
            int sum = 0;
            for (int point = 1; point < points; point++) {
                sum -= least(point, DAWN) + least(DAWN, point);
            }
            return sum;
        }

        /** The SPAN if one gap more were taken; 0 if that can not be. */
        int spanWith(int over, int under, int gap) {
            if (!fits(over, under, gap)) {
                return 0;
            }
            int fromDawn = least(DAWN, under) + gap;
            int toDawn = gap + least(over, DAWN);
            int overRow = over * POINTS;
            int sum = 0;
            for (int point = 1; point < points; point++) {
                int row = point * POINTS;
                int first = fromDawn + gaps[overRow + point];
                int known = gaps[DAWN * POINTS + point];
                sum -= first > known ? first : known;
                int end = gaps[row + under] + toDawn;
                known = gaps[row + DAWN];
                sum -= end > known ? end : known;
            }
            return sum;
        }
    }

    /**
     * Finds a CORE's size. FACTS can not be together where a round trip over their bounds ends
     * above its beginning; the fewest FACTS on such a trip are the least part. (One BEGAN's two
     * bounds close no such trip by themselves, so a least trip has each FACT once.)
     */
    private static final class CoreSearch {
        private final int[] before = new int[POINTS * POINTS];
        private final int[] after = new int[POINTS * POINTS];

        int fewest(Net free, Fact[] facts, int factCount, int set) {
            System.arraycopy(free.gaps, 0, after, 0, after.length);
            for (int used = 1; used <= MOST_CORED; used++) {
                System.arraycopy(after, 0, before, 0, before.length);
                for (int i = 0; i < factCount; i++) {
                    if (isIn(set, i)) {
                        Fact fact = facts[i];
                        goOver(free, fact.over, fact.under, fact.least);
                        goOver(free, fact.under, fact.over, -fact.most);
                    }
                }
                if (isRoundTripAbove(free.points)) {
                    return used;
                }
            }
            return NONE;
        }

        private void goOver(Net free, int over, int under, int gap) {
            if (gap <= -FAR || !free.isPoint(over) || !free.isPoint(under)) {
                return;
            }
            for (int from = 0; from < free.points; from++) {
                int reached = before[from * POINTS + under] + gap;
                for (int to = 0; to < free.points; to++) {
                    int place = from * POINTS + to;
                    after[place] = Math.max(after[place], reached + free.least(over, to));
                }
            }
        }

        private boolean isRoundTripAbove(int points) {
            for (int point = 0; point < points; point++) {
                if (after[point * POINTS + point] > 0) {
                    return true;
                }
            }
            return false;
        }
    }

    /** Finds how many WALKS at most can each be followed by one of the same walker. */
    private static final class ChainSearch {
        /** The first is the SET's net, behind it one for each link taken. */
        private final Net[] nets = new Net[MOST_ROWED + 1];
        private final int[] boots = new int[MOST_ROWED];
        private final int[] lengths = new int[MOST_ROWED];
        private int walkCount = 0;
        private int best = 0;

        ChainSearch() {
            for (int i = 0; i < nets.length; i++) {
                nets[i] = new Net();
            }
        }

        int mostLinks(Net net, Walk[] walks, int count) {
            walkCount = Math.min(count, MOST_ROWED);
            for (int i = 0; i < walkCount && i < walks.length; i++) {
                Walk w = walks[i];
                if (w != null) {
                    boots[i] = w.boot;
                    lengths[i] = w.ticksToEnd();
                }
            }
            nets[0].copy(net);
            best = 0;
            link(0, 0, 0);
            return best;
        }

        /** Seeks one to follow this WALK, then those to follow the WALKS behind it. */
        private void link(int walk, int links, int following) {
            best = Math.max(best, links);
            boolean mayGrow = links + walkCount - walk > best;
            if (walk >= walkCount || !mayGrow || links + 1 >= nets.length) {
                return;
            }
            Net longer = nets[links + 1];
            for (int next = 0; next < walkCount; next++) {
                if (!isIn(following, next) && mayFollow(nets[links], walk, next)) {
                    longer.copy(nets[links]);
                    longer.takesGap(pointOf(next), pointOf(walk), lengths[walk] + 1);
                    link(walk + 1, links + 1, following | 1 << next);
                }
            }
            link(walk + 1, links, following);
        }

        private boolean mayFollow(Net net, int walk, int next) {
            return walk != next && boots[walk] == boots[next]
                    && net.fits(pointOf(next), pointOf(walk), lengths[walk] + 1);
        }
    }

    /** Counts the rows in which STARTS may rise, by rising numbers, and keeps the wanted one. */
    private static final class RowSearch {
        /** The first is the SET's net, behind it one for each WALK in the row. */
        private final Net[] nets = new Net[MOST_ROWED];
        private int walkCount = 0;
        private int wanted = NONE;
        private int counted = 0;
        private int found = NONE;

        RowSearch() {
            for (int i = 0; i < nets.length; i++) {
                nets[i] = new Net();
            }
        }

        void seek(Net net, int count, int rank) {
            walkCount = Math.min(count, MOST_ROWED);
            wanted = rank;
            counted = 0;
            found = NONE;
            nets[0].copy(net);
            extend(0, 0, 0);
        }

        private void extend(int length, int used, int row) {
            if (length >= walkCount) {
                if (counted == wanted) {
                    found = row;
                }
                counted++;
                return;
            }
            for (int next = 0; next < walkCount && found == NONE; next++) {
                if (!isIn(used, next) && rises(length, row, next)) {
                    extend(length + 1, used | 1 << next, 8 * row + next);
                }
            }
        }

        /** Whether next may stand behind the row; if so, and more come, their net is laid. */
        private boolean rises(int length, int row, int next) {
            int over = pointOf(next);
            int under = pointOf(row & 7);
            if (length > 0 && !nets[length].fits(over, under, 1)) {
                return false;
            }
            if (length + 1 < walkCount) {
                Net longer = nets[length + 1];
                longer.copy(nets[length]);
                if (length > 0) {
                    longer.takesGap(over, under, 1);
                }
            }
            return true;
        }
    }

    /** The best CROSSING to look under so far. */
    private static final class Glance {
        private int a = NONE;
        private int b = NONE;
        private int cell = NONE;
        private int widest = NONE;

        void clear() {
            a = NONE;
            b = NONE;
            cell = NONE;
            widest = NONE;
        }

        boolean isBetter(int span) {
            return widest == NONE || span < widest;
        }

        void offer(int first, int second, int place, int greater) {
            if (isBetter(greater)) {
                a = first;
                b = second;
                cell = place;
                widest = greater;
            }
        }
    }
}
