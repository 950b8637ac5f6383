/** Terms 1 on WALKS and promises 1 and 6 to 9: each sentence that names an edge has a test of its own. */
final class EdgesOfWalksTest {
    private static final int NONE = SnowTracks.NONE;
    private static final int LOW = Integer.MIN_VALUE;
    private static final int HIGH = Integer.MAX_VALUE;

    private EdgesOfWalksTest() {
    }

    public static void main(String[] args) {
        constants();
        wideAndDeep();
        ticksOfTheDay();
        cellsFromZero();
        behind60();
        sixtyWithinBrackets();
        noneAtTheYardsEnd();
        standing();
        backOverTheLatest();
        standsWithoutSuch();
        printAtMoment0();
        cameToAnotherCell();
        greatestMoment();
        endBehindTheDay();
        toldOfNone();
        whereOfNone();
        latestOfNone();
        printsAsBits();
        Due.end("EdgesOfWalksTest");
    }

    private static SnowTracks yardWith(int wide, int deep, String... texts) {
        SnowTracks yard = new SnowTracks(wide, deep, 100);
        for (int i = 0; i < texts.length; i++) {
            Due.is("walk of " + texts[i], Due.walk(yard, texts[i], 1, 0), i);
        }
        return yard;
    }

    /** The CELLS of all MOMENTS, and none behind them. */
    private static void path(SnowTracks yard, int walk, int... cells) {
        Due.is("last MOMENT", yard.told(walk, 0), cells.length - 1);
        for (int i = 0; i < cells.length; i++) {
            Due.is("where " + i, yard.where(walk, i), cells[i]);
        }
        Due.is("where behind", yard.where(walk, cells.length), NONE);
    }

    private static void constants() {
        Due.says("`NONE = -1`: None; refused.");
        Due.is("NONE", SnowTracks.NONE, -1);
        Due.says("`HIDDEN = -100000`: Not told.");
        Due.is("HIDDEN", SnowTracks.HIDDEN, -100000);
    }

    private static void wideAndDeep() {
        Due.says("A yard so wide and deep (2 at least, 16 at most each)");
        int[][] sizes = {{2, 2}, {3, 3}, {15, 15}, {16, 16}, {1, 2}, {0, 2}, {-1, 2}, {LOW, 2},
            {17, 16}, {18, 16}, {HIGH, 16}, {256, 16}};
        for (int[] s : sizes) {
            SnowTracks wide = new SnowTracks(s[0], 5, 100);
            Due.is("wide " + s[0], wide.count(3), s[1]);
            Due.is("deep 5", wide.count(4), 5);
            Due.is("its last CELL " + s[0], wide.prints(s[1] - 1, 4), 0);
            Due.is("beside it " + s[0], wide.prints(s[1], 4), NONE);
            Due.is("beside it a WALK can't begin", Due.fault(wide, "@" + s[1] + ",0n"), s[1] < 10 ? 1 : 2);
            SnowTracks deep = new SnowTracks(5, s[0], 100);
            Due.is("deep " + s[0], deep.count(4), s[1]);
            Due.is("wide 5", deep.count(3), 5);
            Due.is("its last CELL " + s[0], deep.prints(4, s[1] - 1), 0);
            Due.is("below it " + s[0], deep.prints(4, s[1]), NONE);
            Due.is("below it a WALK can't begin", Due.fault(deep, "@0," + s[1] + "n"), s[1] < 10 ? 3 : 4);
        }
    }

    private static void ticksOfTheDay() {
        Due.says("with a DAY (10 at least, 2,000 at most).");
        int[][] days = {{10, 10}, {11, 11}, {1999, 1999}, {2000, 2000}, {9, 10}, {0, 10}, {-1, 10},
            {LOW, 10}, {2001, 2000}, {5000, 2000}, {HIGH, 2000}};
        for (int[] d : days) {
            SnowTracks yard = new SnowTracks(4, 4, d[0]);
            Due.is("DAY " + d[0], yard.count(5), d[1]);
            Due.walk(yard, "@0,0n", 1, 0);
            Due.is("FIRST in a DAY of " + d[0], yard.begins(0, 0, 0), 0);
            Due.is("LAST in a DAY of " + d[0], yard.begins(0, 0, 1), d[1]);
            Due.is("its last tick", yard.start(0, d[1]), true);
            Due.is("behind its last tick", yard.start(0, d[1] + 1), false);
        }
    }

    private static void cellsFromZero() {
        Due.says("CELLS x, y (x to the east, y to the south, from 0)");
        SnowTracks yard = yardWith(16, 16, "@0,0e", "@0,0s", "@15,15w", "@15,15n", "@15,0z", "@0,15z");
        path(yard, 0, 0, 1);
        path(yard, 1, 0, 16);
        path(yard, 2, 255, 254);
        path(yard, 3, 255, 239);
        path(yard, 4, 15, 15);
        path(yard, 5, 240, 240);
        Due.is("in 0,0", yard.prints(0, 0), 3);
        Due.is("in 15,15", yard.prints(15, 15), 12);
    }

    private static void behind60() {
        Due.says("behind 60 nothing more is walked");
        String[] texts = {"@0,0 6(9z)5z", "@0,0 6(9z)6z", "@0,0 6(9z)7z", "@0,0 7(9z)", "@0,0 6(9z)5z2e",
            "@0,0 6(9z)5z(2(2(e)))", "@0,0 6(9z)6ze", "@0,0 e6(9z)5zb", "@0,0 e6(9z)4zb",
            "@0,0" + "z".repeat(60) + "e", "@0,0" + "z".repeat(59) + "e"};
        int[] last = {59, 60, 60, 60, 60, 60, 60, 60, 60, 60, 60};
        int[] cell = {0, 0, 0, 0, 1, 1, 0, 1, 0, 0, 1};
        int[] prints = {1, 1, 1, 1, 2, 2, 1, 2, 3, 1, 2};
        for (int i = 0; i < texts.length; i++) {
            SnowTracks yard = yardWith(4, 4, texts[i]);
            Due.is("last MOMENT of " + texts[i], yard.told(0, 0), last[i]);
            Due.is("its CELL, " + texts[i], yard.where(0, last[i]), cell[i]);
            Due.is("PRINTS of " + texts[i], yard.told(0, 3), prints[i]);
            Due.is("where behind, " + texts[i], yard.where(0, last[i] + 1), NONE);
        }
    }

    private static void sixtyWithinBrackets() {
        Due.says("behind 60 nothing more is walked");
        SnowTracks yard = yardWith(16, 16, "@0,0 9(9(9(9e)))", "@0,0 9(9(9(z)))", "@0,0 9(9(2(ew)))",
            "@0,0 9(7(es)wn)");
        int[] cell = {15, 0, 0, 255};
        int[] prints = {16, 1, 61, 1 + 16 + 16 + 6 + 2 + 2};
        for (int i = 0; i < 4; i++) {
            Due.is("last MOMENT of " + i, yard.told(i, 0), 60);
            Due.is("where at 60 of " + i, yard.where(i, 60), cell[i]);
            Due.is("where behind 60 of " + i, yard.where(i, 61), NONE);
            Due.is("PRINTS of " + i, yard.told(i, 3), prints[i]);
        }
        // es 7 times, wn: 16 MOMENTS; then each 16 come 6 farther, until the yard ends
        Due.is("MOMENT 14", yard.where(3, 14), 17 * 7);
        Due.is("MOMENT 16", yard.where(3, 16), 17 * 6);
        Due.is("MOMENT 32", yard.where(3, 32), 17 * 12);
        Due.is("MOMENT 46", yard.where(3, 46), 255);
        Due.is("MOMENT 48", yard.where(3, 48), 238);
    }

    private static void noneAtTheYardsEnd() {
        Due.says("or none at the yard's end");
        SnowTracks yard = yardWith(3, 2, "@0,0 nw2e2s3nw", "@2,1 2e2s3w");
        path(yard, 0, 0, 0, 0, 1, 2, 18, 18, 2, 2, 2, 1);
        path(yard, 1, 18, 18, 18, 18, 18, 17, 16, 16);
        Due.is("PRINTS without STEPS", yard.told(0, 3), 6);
        Due.is("PRINTS without STEPS", yard.told(1, 3), 3);
        SnowTracks full = yardWith(16, 16, "@14,0 3e", "@1,15 3w", "@0,14 3s", "@15,1 3n");
        path(full, 0, 14, 15, 15, 15);
        path(full, 1, 241, 240, 240, 240);
        path(full, 2, 224, 240, 240, 240);
        path(full, 3, 31, 15, 15, 15);
    }

    private static void standing() {
        Due.says("z: one stands");
        SnowTracks yard = yardWith(4, 4, "@1,1 2zez");
        path(yard, 0, 17, 17, 17, 18, 18);
        Due.is("PRINTS", yard.told(0, 3), 2);
    }

    private static void backOverTheLatest() {
        Due.says("b: one goes back over the latest STEP not gone back over yet");
        SnowTracks yard = yardWith(4, 4, "@0,0 esbb", "@0,0 esbeb2b", "@0,0 ezb", "@3,0 weeb2b",
            "@0,0 2(eb)", "@0,0 ewbb");
        path(yard, 0, 0, 1, 17, 1, 0);
        path(yard, 1, 0, 1, 17, 1, 2, 1, 0, 0);
        path(yard, 2, 0, 1, 1, 0);
        // the second e is none: one goes back over the first, then over w
        path(yard, 3, 3, 2, 3, 3, 2, 3, 3);
        path(yard, 4, 0, 1, 0, 1, 0);
        path(yard, 5, 0, 1, 0, 1, 0);
    }

    private static void standsWithoutSuch() {
        Due.says("or stands without such");
        SnowTracks yard = yardWith(4, 4, "@0,0 b", "@1,1 2bn3b", "@0,0 n2b", "@0,0 3s", "@2,2 9b");
        path(yard, 0, 0, 0);
        path(yard, 1, 17, 17, 17, 1, 17, 17, 17);
        path(yard, 2, 0, 0, 0, 0);
        Due.is("PRINTS of one that stood", yard.told(0, 3), 1);
        Due.is("PRINTS of one that came back", yard.told(1, 3), 3);
        Due.is("another WALK's STEPS are not gone back over", yard.where(4, 9), 34);
    }

    private static void printAtMoment0() {
        Due.says("A PRINT is left at MOMENT 0");
        SnowTracks yard = yardWith(4, 4, "@1,1z", "@1,1b", "@0,0n");
        for (int i = 0; i < 2; i++) {
            Due.is("latest where it begins", yard.latest(i, 1, 1), 0);
            Due.is("one PRINT", yard.told(i, 3), 1);
        }
        Due.is("latest where it begins", yard.latest(2, 0, 0), 0);
        Due.is("prints there", yard.prints(1, 1), 3);
    }

    private static void cameToAnotherCell() {
        Due.says("at each at which one came to another CELL");
        SnowTracks yard = yardWith(4, 4, "@0,0 zezbz", "@0,0 nez2b");
        // 0,0 0,0 1,0 1,0 0,0 0,0
        Due.is("came, went, came back", yard.told(0, 3), 3);
        Due.is("latest in 0,0 is no standing", yard.latest(0, 0, 0), 4);
        Due.is("latest in 1,0 is no standing", yard.latest(0, 1, 0), 2);
        // 0,0 0,0 1,0 1,0 0,0 0,0
        Due.is("going back leaves one", yard.told(1, 3), 3);
        Due.is("going back leaves one", yard.latest(1, 0, 0), 4);
    }

    private static void greatestMoment() {
        Due.says("LATEST in a CELL: a WALK's greatest MOMENT with a PRINT there.");
        SnowTracks yard = yardWith(4, 4, "@0,0 9(9(ew))", "@0,0 2(2e2w)", "@3,3 9(9z)");
        Due.is("at 60", yard.latest(0, 0, 0), 60);
        Due.is("at 59", yard.latest(0, 1, 0), 59);
        Due.is("the second time", yard.latest(1, 2, 0), 6);
        Due.is("the fourth time", yard.latest(1, 1, 0), 7);
        Due.is("the third time", yard.latest(1, 0, 0), 8);
        Due.is("at 0, though it stands there until 60", yard.latest(2, 3, 3), 0);
    }

    private static void endBehindTheDay() {
        Due.says("its END its last MOMENT (also behind the DAY)");
        SnowTracks yard = new SnowTracks(2, 2, 10);
        Due.walk(yard, "@0,0 6(9z)5ze", 9, 3);
        Due.walk(yard, "@1,0 z", 1, 3);
        Due.is("START at the DAY's end", yard.start(0, 10), true);
        // MOMENT 60 is at 10 and 540
        Due.is("not yet shown", yard.shown(1, 0, 549), 1);
        Due.is("shown behind the DAY", yard.shown(1, 0, 550), 0);
        Due.is("TOP behind the DAY", yard.top(1, 0), 0);
        Due.is("FRESH behind the DAY", yard.fact(0, 1, 0, 549, 1, 0), 0);
        Due.is("FRESH, too late", yard.fact(0, 1, 0, 550, 1, 0), 1);
        Due.is("COVERED, too early", yard.fact(0, 2, 0, 539, 1, 0), 2);
        Due.is("COVERED behind the DAY", yard.fact(0, 2, 0, 540, 1, 0), 3);
        int[] can = {1, 0, 0, 1};
        for (int i = 0; i < can.length; i++) {
            Due.is("can " + i, yard.can(1 << i), can[i]);
        }
        Due.is("FIRST", yard.begins(1, 0, 0), 10);
        Due.is("LAST", yard.begins(8, 0, 1), 0);
        Due.is("END is never below a START", yard.one(0, 0, 1), 2);
    }

    private static void toldOfNone() {
        Due.says("NoSuchElementException: no such ones.");
        SnowTracks yard = new SnowTracks(4, 4, 10);
        Due.noSuch(yard, 0, 0);
        Due.walk(yard, "@0,0 2en", 7, 8);
        int[] due = {3, 7, 8, 3, 0};
        for (int what = 0; what <= 4; what++) {
            Due.is("told " + what, yard.told(0, what), due[what]);
        }
        int[][] none = {{0, -1}, {0, 5}, {-1, 0}, {1, 0}, {1, 4}, {-1, 4}, {8, 0}, {0, LOW}, {0, HIGH},
            {LOW, 0}, {HIGH, 0}, {-1, -1}, {1, 5}};
        for (int[] n : none) {
            Due.noSuch(yard, n[0], n[1]);
        }
        for (int i = 1; i < 8; i++) {
            Due.walk(yard, "@0,0 2en", i, 8);
        }
        Due.is("told of the eighth", yard.told(7, 1), 7);
        Due.noSuch(yard, 8, 1);
    }

    private static void whereOfNone() {
        Due.says("Where a WALK is at a MOMENT: 16 y and x. NONE: no such ones.");
        SnowTracks yard = yardWith(16, 16, "@15,14 s", "@0,0 9(9z)");
        Due.is("MOMENT 0", yard.where(0, 0), 239);
        Due.is("MOMENT 1", yard.where(0, 1), 255);
        Due.is("MOMENT 60", yard.where(1, 60), 0);
        int[][] none = {{0, -1}, {0, 2}, {1, 61}, {0, LOW}, {0, HIGH}, {-1, 0}, {2, 0}, {8, 0}, {LOW, 0}, {HIGH, 0}};
        for (int[] n : none) {
            Due.is("where(" + n[0] + ", " + n[1] + ")", yard.where(n[0], n[1]), NONE);
        }
        Due.is("where without WALKS", new SnowTracks(4, 4, 10).where(0, 0), NONE);
    }

    private static void latestOfNone() {
        Due.says("NONE: it has no PRINT there, no such ones.");
        SnowTracks yard = yardWith(3, 2, "@2,1 w", "@0,0 z");
        Due.is("latest 2,1", yard.latest(0, 2, 1), 0);
        Due.is("latest 1,1", yard.latest(0, 1, 1), 1);
        int[][] none = {{0, 0, 1}, {0, 2, 0}, {1, 2, 1}, {0, 3, 1}, {0, 2, 2}, {0, -1, 1}, {0, 2, -1},
            {-1, 2, 1}, {2, 2, 1}, {8, 2, 1}, {0, 18, 0}, {0, -14, 2}, {0, LOW, 1}, {0, HIGH, 1},
            {0, 2, LOW}, {0, 2, HIGH}, {LOW, 2, 1}, {HIGH, 2, 1}};
        for (int[] n : none) {
            Due.is("latest(" + n[0] + ", " + n[1] + ", " + n[2] + ")", yard.latest(n[0], n[1], n[2]), NONE);
        }
        Due.is("latest without WALKS", new SnowTracks(4, 4, 10).latest(0, 0, 0), NONE);
    }

    private static void printsAsBits() {
        Due.says("WALKS that have PRINTS in a CELL, as bits. NONE: no such CELL.");
        SnowTracks yard = yardWith(3, 2, "@0,0 e", "@1,0 z", "@0,0 z", "@1,0 w", "@2,1 z", "@1,0 z",
            "@1,0 e", "@0,0 e");
        int[][] due = {{0, 0, 1 + 4 + 8 + 128}, {1, 0, 1 + 2 + 8 + 32 + 64 + 128}, {2, 0, 64}, {0, 1, 0},
            {1, 1, 0}, {2, 1, 16}, {3, 0, NONE}, {0, 2, NONE}, {-1, 0, NONE}, {-1, 1, NONE}, {0, -1, NONE},
            {3, 1, NONE}, {16, 0, NONE}, {17, -1, NONE}, {LOW, 0, NONE}, {HIGH, 0, NONE}, {0, LOW, NONE}, {0, HIGH, NONE}};
        for (int[] d : due) {
            Due.is("prints(" + d[0] + ", " + d[1] + ")", yard.prints(d[0], d[1]), d[2]);
        }
        Due.is("without WALKS", new SnowTracks(3, 2, 10).prints(2, 1), 0);
    }
}
