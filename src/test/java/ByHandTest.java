/** Promises 27 to 34 and 36: told STARTS, judging, TOP, SETTLED, SNOWS, ORDERS, counts. */
final class ByHandTest {
    private static final int LOW = Integer.MIN_VALUE;
    private static final int HIGH = Integer.MAX_VALUE;

    private ByHandTest() {
    }

    public static void main(String[] args) {
        starts();
        judging();
        tops();
        settling();
        snows();
        shown();
        shownUnderSnow();
        trails();
        orders();
        ordersAtTheEdge();
        counts();
        Due.end("ByHandTest");
    }

    /** WALK 0: 0,0 to 2,0 at PACE 2; WALK 1: 2,0 to 0,0 and back to 1,0 at PACE 1; WALK 2 in 1,0. */
    private static SnowTracks yard() {
        SnowTracks yard = new SnowTracks(3, 2, 50);
        Due.walk(yard, "@0,0 2e", 2, 0);
        Due.walk(yard, "@2,0 2w b", 1, 1);
        Due.walk(yard, "@1,0 z", 3, 0);
        return yard;
    }

    private static void startAll(SnowTracks yard, int a, int b, int c) {
        yard.start(0, a);
        yard.start(1, b);
        yard.start(2, c);
    }

    private static void starts() {
        SnowTracks yard = yard();
        Due.is("START at first", yard.told(0, 4), 0);
        Due.is("start 0", yard.start(0, 0), true);
        Due.is("start DAY", yard.start(0, 50), true);
        int[][] refused = {{0, 51}, {0, -1}, {3, 0}, {-1, 0}, {0, LOW}, {0, HIGH}, {LOW, 1}, {HIGH, 1}};
        for (int[] r : refused) {
            Due.is("start(" + r[0] + ", " + r[1] + ")", yard.start(r[0], r[1]), false);
        }
        Due.is("a refused START", yard.told(0, 4), 50);
        Due.is("another's START", yard.told(1, 4), 0);
    }

    private static void judging() {
        SnowTracks yard = yard();
        yard.fact(0, 0, 0, 1, 0, 0);    // START 0 later than START 1 and 2
        yard.fact(0, 1, 1, 9, 1, 0);    // START 1 and 3 later than 9
        yard.fact(0, 2, 1, 9, 0, 0);    // START 1 and 2 at 9 or before
        yard.fact(0, 3, 2, 0, 5, 7);    // START 2 in 5 .. 7
        yard.fact(0, 4, 2, 0, -4, 0);   // START 2 is START 0 less 4, or later
        int[][] due = {
            // told STARTS, then which of the FACTS hold, as bits
            {10, 7, 6, 31}, {9, 7, 6, 30}, {10, 6, 6, 29}, {10, 8, 6, 26}, {11, 8, 6, 11},
            {10, 7, 7, 31}, {10, 7, 8, 23}, {9, 6, 5, 29}, {8, 5, 4, 21}, {0, 0, 0, 20}};
        for (int[] d : due) {
            startAll(yard, d[0], d[1], d[2]);
            for (int set = 0; set < 32; set++) {
                int broken = set & ~d[3];
                int lowest = broken == 0 ? SnowTracks.NONE : Integer.numberOfTrailingZeros(broken);
                Due.is("judge " + set + " by " + d[0] + " " + d[1], yard.judge(set), lowest);
            }
        }
        for (int set : new int[] {32, -1, LOW, HIGH}) {
            Due.is("judge " + set, yard.judge(set), SnowTracks.NONE);
        }
    }

    private static void tops() {
        SnowTracks yard = yard();
        // 0,0: WALK 0 at 0, WALK 1 at 2; 1,0: 0 at 2, 1 at 3, 2 at 0; 2,0: 0 at 4, 1 at 0
        int[][] due = {{0, 0, 0, 1, 1, 0}, {2, 0, 0, 0, 0, 0}, {0, 4, 0, 1, 1, 0}, {1, 0, 3, 1, 0, 0},
            {0, 5, 9, 1, 2, 1}, {50, 50, 50, 1, 1, 0}, {0, 0, 3, 1, 1, 0}, {0, 0, 4, 1, 2, 0}};
        for (int[] d : due) {
            startAll(yard, d[0], d[1], d[2]);
            for (int x = 0; x < 3; x++) {
                String call = "top(" + x + ", 0) by " + d[0] + " " + d[1] + " " + d[2];
                Due.is(call, yard.top(x, 0), d[3 + x]);
            }
        }
        int[][] none = {{0, 1}, {3, 0}, {0, 2}, {-1, 0}, {0, -1}, {LOW, HIGH}, {16, 0}};
        for (int[] n : none) {
            Due.is("top(" + n[0] + ", " + n[1] + ")", yard.top(n[0], n[1]), SnowTracks.NONE);
        }
        Due.is("top without WALKS", new SnowTracks(3, 2, 50).top(0, 0), SnowTracks.NONE);
    }

    private static void settling() {
        SnowTracks yard = yard();
        Due.is("settle without WALKS", new SnowTracks(3, 2, 50).settle(0), true);
        yard.fact(0, 4, 1, 0, 7, 0);
        yard.fact(0, 3, 0, 0, 20, 30);
        yard.fact(0, 3, 1, 0, 10, 20);
        startAll(yard, 11, 12, 13);
        for (int set : new int[] {7, 8, -1, LOW, HIGH}) {
            Due.is("settle " + set, yard.settle(set), false);
        }
        Due.is("a refused settling", yard.told(1, 4), 12);
        Due.is("settle", yard.settle(3), true);
        Due.is("settled 0", yard.told(0, 4), 20);
        Due.is("settled 1", yard.told(1, 4), 27);
        Due.is("settled 2", yard.told(2, 4), 0);
        Due.is("judged", yard.judge(3), SnowTracks.NONE);
        Due.is("settle anew", yard.settle(0), true);
        Due.is("settled anew", yard.told(1, 4), 0);
    }

    private static void snows() {
        SnowTracks yard = yard();
        int[] refused = {-1, 5001, LOW, HIGH};
        for (int tick : refused) {
            Due.is("snow " + tick, yard.snow(tick), SnowTracks.NONE);
        }
        Due.is("no SNOW", yard.count(6), 0);
        Due.is("snow 0", yard.snow(0), 1);
        Due.is("snow 5000", yard.snow(5000), 2);
        for (int i = 3; i <= 8; i++) {
            Due.is("snow again", yard.snow(7), i);
        }
        Due.is("a ninth SNOW", yard.snow(7), SnowTracks.NONE);
        Due.is("eight SNOWS", yard.count(6), 8);
    }

    private static void shown() {
        SnowTracks yard = yard();
        startAll(yard, 10, 10, 12);
        // 0,0: WALK 0 at 10, 1 at 12; 1,0: 0 at 12, 1 at 11 and 13, 2 at 12; 2,0: 0 at 14, 1 at 10
        int[][] due = {{9, -1, -1, -1}, {10, 0, -1, 1}, {11, 0, 1, 1}, {12, 1, 0, 1}, {13, 1, 1, 1},
            {14, 1, 1, 0}, {5000, 1, 1, 0}, {0, -1, -1, -1}, {-1, -1, -1, -1}, {5001, -1, -1, -1},
            {LOW, -1, -1, -1}, {HIGH, -1, -1, -1}};
        for (int[] d : due) {
            for (int x = 0; x < 3; x++) {
                Due.is("shown " + x + " at " + d[0], yard.shown(x, 0, d[0]), d[1 + x]);
            }
        }
        Due.is("shown without PRINTS", yard.shown(0, 1, 50), SnowTracks.NONE);
        Due.is("shown beside", yard.shown(3, 0, 50), SnowTracks.NONE);
        Due.is("shown below", yard.shown(0, 2, 50), SnowTracks.NONE);
        Due.is("shown at -1", yard.shown(-1, 0, 50), SnowTracks.NONE);
        Due.is("shown far", yard.shown(HIGH, LOW, 50), SnowTracks.NONE);
        Due.is("shown in a new yard", new SnowTracks(3, 2, 50).shown(0, 0, 5), SnowTracks.NONE);
    }

    private static void shownUnderSnow() {
        SnowTracks yard = yard();
        startAll(yard, 10, 10, 12);
        yard.snow(20);
        yard.snow(12);
        yard.snow(3);
        int[][] due = {{10, 0, -1, 1}, {11, 0, 1, 1}, {12, -1, -1, -1}, {13, -1, 1, -1},
            {14, -1, 1, 0}, {19, -1, 1, 0}, {20, -1, -1, -1}, {21, -1, -1, -1}};
        for (int[] d : due) {
            for (int x = 0; x < 3; x++) {
                Due.is("shown " + x + " at " + d[0], yard.shown(x, 0, d[0]), d[1 + x]);
            }
        }
        // SNOW at tick 0 covers what is made then
        SnowTracks early = yard();
        Due.is("before it", early.shown(0, 0, 0), 0);
        early.snow(0);
        Due.is("covered at 0", early.shown(0, 0, 0), SnowTracks.NONE);
        Due.is("later than 0", early.shown(0, 0, 2), 1);
        Due.is("TOP knows no SNOW", early.top(2, 0), 0);
    }

    private static void trails() {
        SnowTracks yard = yard();
        startAll(yard, 10, 10, 12);
        int[][] due = {{9, 0, 0, 0}, {10, 1, 1, 0}, {11, 1, 2, 0}, {12, 1, 2, 0}, {13, 0, 3, 0},
            {14, 1, 2, 0}, {5000, 1, 2, 0}};
        for (int[] d : due) {
            for (int walk = 0; walk < 3; walk++) {
                Due.is("trail " + walk + " at " + d[0], yard.trail(walk, d[0]), d[1 + walk]);
            }
        }
        yard.snow(12);
        Due.is("trail under SNOW", yard.trail(1, 12), 0);
        Due.is("trail on SNOW", yard.trail(1, 13), 1);
        Due.is("trail on SNOW", yard.trail(0, 14), 1);
        int[][] none = {{3, 10}, {-1, 10}, {0, -1}, {0, 5001}, {LOW, 10}, {HIGH, 10}, {0, LOW}, {0, HIGH}};
        for (int[] n : none) {
            Due.is("trail(" + n[0] + ", " + n[1] + ")", yard.trail(n[0], n[1]), SnowTracks.NONE);
        }
    }

    private static void orders() {
        SnowTracks yard = yard();
        int[] all = {0012, 0021, 0102, 0120, 0201, 0210};
        Due.is("all ORDERS", yard.orders(0, -1), 6);
        for (int i = 0; i < 6; i++) {
            Due.is("order " + i, yard.orders(0, i), all[i]);
        }
        yard.fact(0, 4, 1, 0, 1, 0);
        yard.fact(0, 4, 2, 1, 0, 0);
        yard.fact(0, 4, 1, 2, 0, 0);
        yard.fact(0, 4, 0, 1, 1, 0);
        int[] some = {0012, 0021, 0201};
        Due.is("0 below 1", yard.orders(1, -1), 3);
        for (int i = 0; i < 3; i++) {
            Due.is("0 below 1, " + i, yard.orders(1, i), some[i]);
        }
        Due.is("1 not above 2", yard.orders(3, -1), 1);
        Due.is("1 not above 2", yard.orders(3, 0), 0012);
        Due.is("1 as 2", yard.orders(6, -1), 0);
        Due.is("1 as 2", yard.orders(6, 0), SnowTracks.NONE);
        int[][] none = {{0, 6}, {0, -2}, {0, LOW}, {0, HIGH}, {9, -1}, {9, 0}, {16, -1}, {-1, -1},
            {LOW, 0}, {HIGH, 0}};
        for (int[] n : none) {
            Due.is("orders(" + n[0] + ", " + n[1] + ")", yard.orders(n[0], n[1]), SnowTracks.NONE);
        }
    }

    private static void ordersAtTheEdge() {
        SnowTracks yard = new SnowTracks(4, 4, 10);
        Due.is("the row of no WALKS", yard.orders(0, -1), 1);
        Due.is("the row of no WALKS", yard.orders(0, 0), 0);
        for (int i = 0; i < 6; i++) {
            Due.walk(yard, "@0,0 z", 1, 0);
        }
        Due.is("ORDERS of six", yard.orders(0, -1), 720);
        Due.is("the first", yard.orders(0, 0), 0012345);
        Due.is("the last", yard.orders(0, 719), 0543210);
        Due.is("behind the last", yard.orders(0, 720), SnowTracks.NONE);
        Due.is("one between", yard.orders(0, 120), 0102345);
        yard.fact(0, 3, 0, 0, 5, 10);
        yard.fact(0, 3, 1, 0, 0, 0);
        yard.fact(0, 3, 0, 0, 6, 10);
        // 5 .. 10 for six in a row: one order of each of the other five
        Due.is("0 not before 5", yard.orders(1, -1), 720);
        Due.is("0 behind 5, 1 the first", yard.orders(3, -1), 120);
        Due.is("0 is not the first at 6", yard.orders(4, -1), 600);
        Due.walk(yard, "@0,0 z", 1, 0);
        Due.is("ORDERS of seven", yard.orders(0, -1), SnowTracks.NONE);
        Due.is("ORDERS of seven", yard.orders(0, 0), SnowTracks.NONE);
    }

    private static void counts() {
        SnowTracks yard = yard();
        Due.feed(yard, "@0,0");
        yard.fact(0, 3, 0, 0, 5, 10);
        yard.snow(5);
        yard.snow(5);
        int[] due = {3, 1, 4, 3, 2, 50, 2};
        for (int what = 0; what < due.length; what++) {
            Due.is("count " + what, yard.count(what), due[what]);
        }
        for (int what : new int[] {-1, 7, LOW, HIGH}) {
            Due.is("count " + what, yard.count(what), SnowTracks.NONE);
        }
    }
}
