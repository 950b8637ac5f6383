/** Terms 4 and promises 27 to 34 and 36: each sentence that names an edge has a test of its own. */
final class EdgesByHandTest {
    private static final int NONE = SnowTracks.NONE;
    private static final int LOW = Integer.MIN_VALUE;
    private static final int HIGH = Integer.MAX_VALUE;

    private EdgesByHandTest() {
    }

    public static void main(String[] args) {
        zeroAtFirst();
        toldWithinTheDay();
        startRefused();
        lowestThatDoesNotHold();
        allHold();
        madeLast();
        topOfSeveral();
        topNone();
        settledFirst();
        settleRefused();
        eightSnows();
        snowTicks();
        shownAtThatTick();
        shownLaterThanSnow();
        latestSnow();
        shownBySeveralPrints();
        shownOfSeveral();
        shownTicks();
        shownNone();
        trailCells();
        trailNone();
        ordersOfSix();
        riseStrictly();
        toTheBase8();
        ordersWithout();
        ordersNone();
        counts();
        Due.end("EdgesByHandTest");
    }

    private static SnowTracks yardWith(int day, String... texts) {
        SnowTracks yard = new SnowTracks(4, 3, day);
        for (int i = 0; i < texts.length; i++) {
            Due.is("walk of " + texts[i], Due.walk(yard, texts[i], 1, 0), i);
        }
        return yard;
    }

    private static void starts(SnowTracks yard, int... ticks) {
        for (int i = 0; i < ticks.length; i++) {
            Due.is("start " + i, yard.start(i, ticks[i]), true);
            Due.is("told START " + i, yard.told(i, 4), ticks[i]);
        }
    }

    // ---- told STARTS

    private static void zeroAtFirst() {
        Due.says("STARTS told by hand (0 at first)");
        SnowTracks yard = yardWith(10, "@0,0 z", "@0,0 z");
        Due.is("0 at first", yard.told(0, 4), 0);
        starts(yard, 7);
        Due.is("1 as it was", yard.told(1, 4), 0);
        Due.walk(yard, "@0,0 z", 1, 0);
        Due.is("a later WALK's", yard.told(2, 4), 0);
        Due.is("the first's stays", yard.told(0, 4), 7);
    }

    private static void toldWithinTheDay() {
        Due.says("A told START (0 .. DAY).");
        for (int day : new int[] {10, 11, 1999, 2000}) {
            SnowTracks yard = yardWith(day, "@0,0 z");
            starts(yard, day);
            starts(yard, 0);
            starts(yard, 1);
            Due.is("behind the DAY", yard.start(0, day + 1), false);
            Due.is("before the DAY", yard.start(0, -1), false);
            Due.is("as it was", yard.told(0, 4), 1);
        }
    }

    private static void startRefused() {
        Due.says("False: no such ones.");
        Due.is("without WALKS", new SnowTracks(4, 3, 10).start(0, 0), false);
        SnowTracks yard = yardWith(10, "@0,0 z", "@0,0 z");
        starts(yard, 3, 4);
        int[][] refused = {{2, 0}, {-1, 0}, {8, 0}, {LOW, 0}, {HIGH, 0}, {0, LOW}, {0, HIGH}, {1, 11}, {1, -1}};
        for (int[] r : refused) {
            Due.is("start(" + r[0] + ", " + r[1] + ")", yard.start(r[0], r[1]), false);
            Due.is("0 as it was", yard.told(0, 4), 3);
            Due.is("1 as it was", yard.told(1, 4), 4);
        }
    }

    private static void lowestThatDoesNotHold() {
        Due.says("JUDGED: the lowest FACT of a SET that does not hold by these");
        SnowTracks yard = yardWith(50, "@0,0 z", "@0,0 z");
        for (int i = 0; i < 20; i++) {
            yard.fact(0, 3, 0, 0, i, 30);
        }
        starts(yard, 17);
        Due.is("18 of all", yard.judge((1 << 20) - 1), 18);
        Due.is("19 alone", yard.judge(1 << 19), 19);
        Due.is("17 holds", yard.judge(1 << 17), NONE);
        starts(yard, 31);
        Due.is("0 of all", yard.judge((1 << 20) - 1), 0);
        Due.is("5 of some", yard.judge(0xFFFE0), 5);
        // by these, though no STARTS could hold them together
        yard.undo();
        yard.fact(0, 4, 1, 0, 51, 0);
        Due.is("one that can not be", yard.judge(1 << 19), 19);
    }

    private static void allHold() {
        Due.says("JUDGED. NONE: all hold, no such FACTS.");
        SnowTracks yard = yardWith(50, "@0,0 z", "@0,0 z");
        Due.is("no FACTS", yard.judge(0), NONE);
        Due.is("no such", yard.judge(1), NONE);
        yard.fact(0, 3, 0, 0, 5, 9);
        Due.is("none of them", yard.judge(0), NONE);
        Due.is("it does not hold", yard.judge(1), 0);
        for (int set : new int[] {2, 3, 1 << 20, -1, LOW, HIGH}) {
            Due.is("judge " + set, yard.judge(set), NONE);
        }
        starts(yard, 5);
        Due.is("it holds", yard.judge(1), NONE);
    }

    private static void madeLast() {
        Due.says("TOP of a CELL: the WALK whose LATEST PRINT there was made last by these");
        // 1,0: WALK 0 at START and 1 and at START and 5; WALK 1 at START and 0
        SnowTracks yard = yardWith(50, "@0,0 eb2zew", "@1,0 9z");
        starts(yard, 10, 14);
        Due.is("the LATEST, not the first", yard.top(1, 0), 0);
        starts(yard, 10, 16);
        Due.is("a later one", yard.top(1, 0), 1);
        starts(yard, 50, 0);
        Due.is("by told STARTS", yard.top(1, 0), 0);
        yard.snow(0);
        yard.snow(5000);
        Due.is("SNOW is not asked", yard.top(1, 0), 0);
    }

    private static void topOfSeveral() {
        Due.says("made last by these (of several the lowest)");
        SnowTracks yard = yardWith(50, "@0,0 e", "@1,0 z", "@1,1 n", "@1,0 z");
        Due.is("0 and 2 at tick 1", yard.top(1, 0), 0);
        starts(yard, 4, 5, 4, 5);
        Due.is("all at tick 5", yard.top(1, 0), 0);
        starts(yard, 3, 5, 4, 5);
        Due.is("1, 2, 3 at tick 5", yard.top(1, 0), 1);
        starts(yard, 3, 4, 4, 5);
        Due.is("2 and 3 at tick 5", yard.top(1, 0), 2);
        starts(yard, 3, 4, 4, 6);
        Due.is("3 at tick 6", yard.top(1, 0), 3);
        SnowTracks full = yardWith(50, "@0,0 z", "@0,0 z", "@0,0 z", "@0,0 z", "@0,0 z", "@0,0 z", "@0,0 z",
            "@0,0 z");
        Due.is("eight at tick 0", full.top(0, 0), 0);
        full.start(7, 1);
        Due.is("the eighth", full.top(0, 0), 7);
    }

    private static void topNone() {
        Due.says("TOP. NONE: no PRINTS there, no such CELL.");
        SnowTracks yard = yardWith(50, "@3,2 n");
        Due.is("3,2", yard.top(3, 2), 0);
        int[][] none = {{0, 0}, {2, 2}, {4, 2}, {3, 3}, {-1, 2}, {3, -1}, {4, 1}, {19, 1}, {-13, 3}, {LOW, 0},
            {HIGH, 0}, {3, LOW}, {3, HIGH}};
        for (int[] n : none) {
            Due.is("top(" + n[0] + ", " + n[1] + ")", yard.top(n[0], n[1]), NONE);
        }
        Due.is("without WALKS", new SnowTracks(4, 3, 50).top(0, 0), NONE);
    }

    private static void settledFirst() {
        Due.says("SETTLED: told become FIRST of each.");
        Due.is("without WALKS", new SnowTracks(4, 3, 50).settle(0), true);
        SnowTracks yard = new SnowTracks(4, 3, 70);
        for (int i = 0; i < 8; i++) {
            Due.walk(yard, "@0,0 z", 1, 0);
            yard.start(i, 70 - i);
        }
        for (int i = 1; i < 8; i++) {
            yard.fact(0, 4, i - 1, i, 10, 0);
        }
        Due.is("a row", yard.settle(127), true);
        for (int i = 0; i < 8; i++) {
            Due.is("told of " + i, yard.told(i, 4), 70 - 10 * i);
        }
        Due.is("they hold", yard.judge(127), NONE);
        Due.is("none of them", yard.settle(0), true);
        for (int i = 0; i < 8; i++) {
            Due.is("told of " + i, yard.told(i, 4), 0);
        }
        Due.is("the first does not hold", yard.judge(127), 0);
    }

    private static void settleRefused() {
        Due.says("SETTLED. False: it can not be, no such FACTS.");
        SnowTracks yard = yardWith(50, "@0,0 z", "@0,0 z");
        yard.fact(0, 4, 1, 0, 51, 0);
        starts(yard, 5, 6);
        for (int set : new int[] {1, 2, 3, 1 << 20, -1, LOW, HIGH}) {
            Due.is("settle " + set, yard.settle(set), false);
            Due.is("0 as it was", yard.told(0, 4), 5);
            Due.is("1 as it was", yard.told(1, 4), 6);
        }
        Due.is("no such, without WALKS", new SnowTracks(4, 3, 50).settle(1), false);
    }

    // ---- SNOW

    private static void eightSnows() {
        Due.says("SNOWS (8 at most)");
        SnowTracks yard = yardWith(50, "@0,0 z");
        for (int i = 1; i <= 8; i++) {
            Due.is("snow " + i, yard.snow(10 * i), i);
            Due.is("count " + i, yard.count(6), i);
        }
        Due.is("a ninth", yard.snow(90), NONE);
        Due.is("a ninth, as another", yard.snow(80), NONE);
        Due.is("eight", yard.count(6), 8);
        starts(yard, 50);
        Due.is("the fifth covers it", yard.shown(0, 0, 50), NONE);
        yard.start(0, 45);
        Due.is("not before", yard.shown(0, 0, 49), 0);
        Due.is("a ninth has not fallen", yard.shown(0, 0, 100), NONE);
        SnowTracks last = yardWith(2000, "@0,0 z");
        for (int i = 0; i < 8; i++) {
            last.snow(5);
        }
        last.snow(100);
        starts(last, 50);
        Due.is("the ninth does not cover", last.shown(0, 0, 200), 0);
    }

    private static void snowTicks() {
        Due.says("A SNOW at a tick (0 .. 5,000): how many there are. NONE: out of bounds, there are eight.");
        SnowTracks yard = yardWith(50, "@0,0 z");
        for (int tick : new int[] {-1, 5001, LOW, HIGH}) {
            Due.is("snow " + tick, yard.snow(tick), NONE);
            Due.is("none", yard.count(6), 0);
        }
        Due.is("at 5,000", yard.snow(5000), 1);
        Due.is("before it", yard.shown(0, 0, 4999), 0);
        Due.is("with it", yard.shown(0, 0, 5000), NONE);
        Due.is("at 0", yard.snow(0), 2);
        Due.is("from 0 on", yard.shown(0, 0, 4999), NONE);
    }

    private static void shownAtThatTick() {
        Due.says("of all PRINTS there made at that tick or before");
        SnowTracks yard = yardWith(50, "@0,0 2ze", "@1,0 z");
        starts(yard, 10, 11);
        // 1,0: WALK 1 at 11, WALK 0 at 13
        int[][] due = {{0, NONE}, {10, NONE}, {11, 1}, {12, 1}, {13, 0}, {14, 0}, {5000, 0}};
        for (int[] d : due) {
            Due.is("shown at " + d[0], yard.shown(1, 0, d[0]), d[1]);
        }
        starts(yard, 0);
        Due.is("at tick 0", yard.shown(0, 0, 0), 0);
    }

    private static void shownLaterThanSnow() {
        Due.says("but later than the latest SNOW at that tick or before");
        SnowTracks yard = yardWith(50, "@0,0 z");
        yard.snow(20);
        int[][] due = {{19, 19, 0}, {19, 20, NONE}, {19, 30, NONE}, {20, 20, NONE}, {20, 21, NONE}, {21, 20, NONE},
            {21, 21, 0}, {21, 30, 0}};
        for (int[] d : due) {
            starts(yard, d[0]);
            Due.is("made at " + d[0] + ", shown at " + d[1], yard.shown(0, 0, d[1]), d[2]);
        }
    }

    private static void latestSnow() {
        Due.says("the latest SNOW at that tick or before");
        // told in no order: the latest is by tick, not by telling
        SnowTracks yard = yardWith(50, "@0,0 z", "@0,0 z");
        yard.snow(30);
        yard.snow(10);
        yard.snow(20);
        yard.snow(10);
        starts(yard, 15, 25);
        int[][] due = {{14, NONE}, {15, 0}, {19, 0}, {20, NONE}, {24, NONE}, {25, 1}, {29, 1}, {30, NONE}, {40, NONE}};
        for (int[] d : due) {
            Due.is("shown at " + d[0], yard.shown(0, 0, d[0]), d[1]);
        }
    }

    private static void shownBySeveralPrints() {
        Due.says("SHOWN in a CELL at a tick, by told STARTS: of all PRINTS there");
        // WALK 0 in 0,0 at 0, 2, 4; WALK 1 at 3
        SnowTracks yard = yardWith(50, "@0,0 2(eb)", "@0,0 z");
        starts(yard, 0, 3);
        int[][] due = {{0, 0}, {2, 0}, {3, 1}, {4, 0}, {9, 0}};
        for (int[] d : due) {
            Due.is("not the LATEST alone, at " + d[0], yard.shown(0, 0, d[0]), d[1]);
        }
        yard.snow(2);
        Due.is("what is older is covered", yard.shown(0, 0, 2), NONE);
        Due.is("then 1", yard.shown(0, 0, 3), 1);
        Due.is("then 0 again", yard.shown(0, 0, 4), 0);
    }

    private static void shownOfSeveral() {
        Due.says("the one made last (of several the lowest WALK's): its WALK");
        SnowTracks yard = yardWith(50, "@1,1 n", "@1,0 z", "@0,0 e");
        starts(yard, 5, 6, 5);
        Due.is("all at 6", yard.shown(1, 0, 6), 0);
        starts(yard, 4, 6, 5);
        Due.is("1 and 2 at 6", yard.shown(1, 0, 6), 1);
        Due.is("0 at 5", yard.shown(1, 0, 5), 0);
        starts(yard, 4, 5, 5);
        Due.is("2 at 6", yard.shown(1, 0, 6), 2);
        Due.is("0 and 1 at 5", yard.shown(1, 0, 5), 0);
    }

    private static void shownTicks() {
        Due.says("SHOWN at a tick (0 .. 5,000): the WALK.");
        SnowTracks yard = yardWith(50, "@0,0 z");
        int[][] due = {{0, 0}, {5000, 0}, {-1, NONE}, {5001, NONE}, {LOW, NONE}, {HIGH, NONE}};
        for (int[] d : due) {
            Due.is("shown at " + d[0], yard.shown(0, 0, d[0]), d[1]);
        }
    }

    private static void shownNone() {
        Due.says("NONE: none, no such ones.");
        SnowTracks yard = yardWith(50, "@3,2 n");
        Due.is("3,2", yard.shown(3, 2, 9), 0);
        int[][] none = {{0, 0}, {2, 2}, {4, 2}, {3, 3}, {-1, 2}, {3, -1}, {4, 1}, {19, 1}, {-13, 3}, {LOW, 0},
            {HIGH, 0}, {3, LOW}, {3, HIGH}};
        for (int[] n : none) {
            Due.is("shown(" + n[0] + ", " + n[1] + ")", yard.shown(n[0], n[1], 9), NONE);
        }
        Due.is("without WALKS", new SnowTracks(4, 3, 50).shown(0, 0, 0), NONE);
    }

    private static void trailCells() {
        Due.says("TRAIL of a WALK at a tick: in how many CELLS it is SHOWN.");
        // WALK 0: 0,0 1,0 0,0 1,0 2,0; WALK 1: 2,0 2,1
        SnowTracks yard = yardWith(50, "@0,0 eb2e", "@2,0 s");
        starts(yard, 10, 13);
        int[][] due = {{9, 0, 0}, {10, 1, 0}, {11, 2, 0}, {12, 2, 0}, {13, 2, 1}, {14, 3, 1}, {5000, 3, 1}, {0, 0, 0}};
        for (int[] d : due) {
            Due.is("trail of 0 at " + d[0], yard.trail(0, d[0]), d[1]);
            Due.is("trail of 1 at " + d[0], yard.trail(1, d[0]), d[2]);
        }
        yard.snow(12);
        Due.is("under SNOW", yard.trail(0, 12), 0);
        Due.is("on SNOW", yard.trail(0, 13), 1);
        Due.is("on SNOW", yard.trail(0, 14), 2);
        SnowTracks all = new SnowTracks(16, 16, 50);
        Due.walk(all, "@15,15 (9w)6wn(9e)6en(9w)6wn(9e)6e", 1, 0);
        Due.is("61 CELLS", all.trail(0, 60), 61);
        Due.is("60 CELLS", all.trail(0, 59), 60);
    }

    private static void trailNone() {
        Due.says("TRAIL. NONE: no such ones.");
        SnowTracks yard = yardWith(50, "@0,0 z");
        int[][] due = {{0, 0, 1}, {0, 5000, 1}, {0, -1, NONE}, {0, 5001, NONE}, {0, LOW, NONE}, {0, HIGH, NONE},
            {1, 0, NONE}, {-1, 0, NONE}, {8, 0, NONE}, {LOW, 0, NONE}, {HIGH, 0, NONE}};
        for (int[] d : due) {
            Due.is("trail(" + d[0] + ", " + d[1] + ")", yard.trail(d[0], d[1]), d[2]);
        }
        Due.is("without WALKS", new SnowTracks(4, 3, 50).trail(0, 0), NONE);
    }

    // ---- ORDERS, counts

    private static void ordersOfSix() {
        Due.says("ORDERS (of six WALKS at most)");
        SnowTracks yard = new SnowTracks(4, 3, 10);
        int[] many = {1, 1, 2, 6, 24, 120, 720, NONE, NONE};
        int[] last = {0, 0, 010, 0210, 03210, 043210, 0543210, NONE, NONE};
        int[] first = {0, 0, 1, 012, 0123, 01234, 012345, NONE, NONE};
        for (int walks = 0; walks <= 8; walks++) {
            Due.is("how many of " + walks, yard.orders(0, NONE), many[walks]);
            Due.is("the first of " + walks, yard.orders(0, 0), first[walks]);
            Due.is("the last of " + walks, yard.orders(0, Math.max(0, many[walks] - 1)), last[walks]);
            Due.is("behind the last of " + walks, yard.orders(0, Math.max(1, many[walks])), NONE);
            Due.walk(yard, "@0,0 z", 1, 0);
        }
    }

    private static void riseStrictly() {
        Due.says("rows of all WALKS in which STARTS may rise strictly, by the SET");
        SnowTracks yard = yardWith(10, "@0,0 z", "@0,0 z", "@0,0 z");
        for (int i = 0; i < 3; i++) {
            yard.fact(0, 3, i, 0, 5, 6);
        }
        yard.fact(0, 3, 1, 0, 7, 7);
        yard.fact(0, 4, 0, 2, 0, 0);
        Due.is("three in two ticks", yard.orders(7, NONE), 0);
        Due.is("three in two ticks", yard.orders(7, 0), NONE);
        Due.is("two in two ticks, one behind", yard.orders(5 + 8, NONE), 2);
        Due.is("0 2 1", yard.orders(5 + 8, 0), 021);
        Due.is("2 0 1", yard.orders(5 + 8, 1), 0201);
        Due.is("0 not before 2", yard.orders(5 + 8 + 16, NONE), 1);
        Due.is("2 0 1", yard.orders(5 + 8 + 16, 0), 0201);
        // each two of the row may rise, but all three not
        Due.is("two at one tick", yard.gap(3, 0, 1, 1), 1);
        Due.is("any two may rise", yard.gap(7, 0, 1, 1) + yard.gap(7, 1, 2, 1) + yard.gap(7, 2, 0, 1), 3);
    }

    private static void toTheBase8() {
        Due.says("as numbers to the base 8, the first WALK the highest digit, rising");
        SnowTracks yard = yardWith(10, "@0,0 z", "@0,0 z", "@0,0 z", "@0,0 z", "@0,0 z", "@0,0 z");
        int before = NONE;
        for (int i = 0; i < 720; i++) {
            int row = yard.orders(0, i);
            Due.is("rising", row > before, true);
            before = row;
            int digits = 0;
            for (int place = 0; place < 6; place++) {
                digits |= 1 << (row >> 3 * place & 7);
            }
            Due.is("all WALKS, each once", digits, 63);
            if (i % 120 == 0) {
                Due.is("the first WALK is the highest digit", row >> 15, i / 120);
                yard = yardWith(10, "@0,0 z", "@0,0 z", "@0,0 z", "@0,0 z", "@0,0 z", "@0,0 z");
            }
        }
        yard.fact(0, 3, 4, 0, 0, 4);
        yard.fact(0, 3, 3, 0, 5, 5);
        Due.is("4 before 3", yard.orders(3, 0) >= 0, true);
        yard.fact(0, 3, 0, 0, 0, 0);
        yard.fact(0, 3, 1, 0, 10, 10);
        yard.fact(0, 3, 2, 0, 9, 9);
        yard.fact(0, 3, 5, 0, 8, 8);
        Due.is("one row", yard.orders(63, NONE), 1);
        Due.is("0 4 3 5 2 1", yard.orders(63, 0), 0043521);
    }

    private static void ordersWithout() {
        Due.says("how many (i NONE), the i-th. NONE: without");
        SnowTracks yard = yardWith(10, "@0,0 z", "@0,0 z");
        Due.is("two", yard.orders(0, NONE), 2);
        for (int i : new int[] {2, 3, -2, LOW, HIGH}) {
            Due.is("the " + i + "-th", yard.orders(0, i), NONE);
        }
        yard.fact(0, 4, 1, 0, 0, 0);
        yard.fact(0, 4, 0, 1, 0, 0);
        Due.is("none rise", yard.orders(3, NONE), 0);
        for (int i : new int[] {0, 1, -2, LOW, HIGH}) {
            Due.is("the " + i + "-th of none", yard.orders(3, i), NONE);
        }
    }

    private static void ordersNone() {
        Due.says("it can not be, more than six WALKS, no such FACTS.");
        SnowTracks yard = yardWith(10, "@0,0 z", "@0,0 z");
        yard.fact(0, 4, 1, 0, 11, 0);
        for (int set : new int[] {1, 2, 3, 1 << 20, -1, LOW, HIGH}) {
            Due.is("how many by " + set, yard.orders(set, NONE), NONE);
            Due.is("the first by " + set, yard.orders(set, 0), NONE);
        }
        Due.is("none of it", yard.orders(0, NONE), 2);
        Due.is("no such, without WALKS", new SnowTracks(4, 3, 10).orders(1, NONE), NONE);
    }

    private static void counts() {
        Due.says("0 WALKS, 1 FACTS, 2 bytes of the TAPE, 3 the yard's width, 4 its depth, 5 the DAY, 6 SNOWS. NONE for others.");
        SnowTracks yard = new SnowTracks(4, 3, 50);
        int[] due = {0, 0, 0, 4, 3, 50, 0};
        for (int what = 0; what <= 6; what++) {
            Due.is("count " + what, yard.count(what), due[what]);
        }
        Due.walk(yard, "@0,0 z", 1, 0);
        yard.fact(0, 3, 0, 0, 0, 50);
        yard.fact(0, 3, 0, 0, 0, 50);
        Due.feed(yard, "@0,");
        for (int i = 0; i < 5; i++) {
            yard.snow(i);
        }
        int[] then = {1, 2, 3, 4, 3, 50, 5};
        for (int what = 0; what <= 6; what++) {
            Due.is("count " + what, yard.count(what), then[what]);
        }
        for (int what : new int[] {-1, 7, 8, LOW, HIGH}) {
            Due.is("count " + what, yard.count(what), NONE);
        }
    }
}
