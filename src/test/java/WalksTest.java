/** Promises 1 to 9: a new object, the TAPE and the WALKS. */
final class WalksTest {
    private WalksTest() {
    }

    public static void main(String[] args) {
        newObject();
        feeding();
        ending();
        faultsOfTheBeginning();
        faultsOfMoves();
        walking();
        telling();
        movesAndPrints();
        places();
        Due.end("WalksTest");
    }

    private static void newObject() {
        int[][] asked = {
            {2, 2, 10}, {16, 16, 2000}, {1, 17, 9}, {17, 1, 2001}, {0, -5, -1},
            {Integer.MAX_VALUE, Integer.MIN_VALUE, Integer.MAX_VALUE}, {5, 7, 365}};
        int[][] due = {
            {2, 2, 10}, {16, 16, 2000}, {2, 16, 10}, {16, 2, 2000}, {2, 2, 10},
            {16, 2, 2000}, {5, 7, 365}};
        for (int i = 0; i < asked.length; i++) {
            SnowTracks yard = new SnowTracks(asked[i][0], asked[i][1], asked[i][2]);
            Due.is("new " + i + " wide", yard.count(3), due[i][0]);
            Due.is("new " + i + " deep", yard.count(4), due[i][1]);
            Due.is("new " + i + " day", yard.count(5), due[i][2]);
            Due.is("new " + i + " walks", yard.count(0), 0);
            Due.is("new " + i + " facts", yard.count(1), 0);
            Due.is("new " + i + " bytes", yard.count(2), 0);
            Due.is("new " + i + " snows", yard.count(6), 0);
        }
    }

    private static void feeding() {
        SnowTracks yard = new SnowTracks(16, 16, 100);
        Due.is("feed zeros", yard.feed(0, 0, 0, 0, 0), 0);
        Due.is("feed one in each", yard.feed('@', '1' << 8, ',' << 16, '2' << 24, 'n'), 5);
        Due.is("fed in order", yard.fault(), SnowTracks.NONE);
        Due.is("feed zeros between", yard.feed(0x6E006500, 0, 0x00730077, 0, 0), 9);
        Due.is("fed zeros are left out", yard.fault(), SnowTracks.NONE);
        Due.is("feed high bytes", yard.feed(-1, 0x80000000, 0, 0, 0), 14);
        Due.is("a high byte is wrong", yard.fault(), 9);
        yard.end(0);
        for (int i = 1; i <= 8; i++) {
            Due.is("feed 20 more", yard.feed(-1, -1, -1, -1, -1), 20 * i);
        }
        Due.is("feed over 160", yard.feed(0, 0, 0, 0, 1), SnowTracks.NONE);
        Due.is("feed nothing at 160", yard.feed(0, 0, 0, 0, 0), 160);
        yard.end(141);
        Due.is("feed 20 at 141", yard.feed(-1, -1, -1, -1, -1), SnowTracks.NONE);
        Due.is("a refused feed leaves the TAPE", yard.count(2), 141);
        Due.is("feed 19 at 141", yard.feed(-1, -1, -1, -1, 0x00FFFFFF), 160);
    }

    private static void ending() {
        SnowTracks yard = new SnowTracks(16, 16, 100);
        Due.is("end(0) of nothing", yard.end(0), true);
        Due.is("end(1) of nothing", yard.end(1), false);
        Due.feed(yard, "@0,0nnx");
        Due.is("end(-1)", yard.end(-1), false);
        Due.is("end(8)", yard.end(8), false);
        Due.is("end far", yard.end(Integer.MAX_VALUE), false);
        Due.is("end low", yard.end(Integer.MIN_VALUE), false);
        Due.is("refused ends leave the TAPE", yard.count(2), 7);
        Due.is("end(7)", yard.end(7), true);
        Due.is("fault before", yard.fault(), 6);
        Due.is("end(6)", yard.end(6), true);
        Due.is("bytes after", yard.count(2), 6);
        Due.is("fault after", yard.fault(), SnowTracks.NONE);
        yard.end(4);
        Due.feed(yard, "(e)");
        Due.is("bytes come behind the kept ones", yard.fault(), SnowTracks.NONE);
        Due.is("bytes behind the kept ones", yard.count(2), 7);
    }

    private static void faults(SnowTracks yard, Object... textsAndFaults) {
        for (int i = 0; i < textsAndFaults.length; i += 2) {
            String text = (String) textsAndFaults[i];
            int due = (Integer) textsAndFaults[i + 1];
            Due.is("fault of '" + text + "'", Due.fault(yard, text), due);
        }
    }

    private static void faultsOfTheBeginning() {
        SnowTracks small = new SnowTracks(4, 5, 100);
        faults(small,
            "", 0, " ", 1, "    ", 4, "n", 0, "  n", 2, "@", 1, "@ ", 2, "@n", 1, "@-1,0n", 1,
            "@@0,0n", 1, "@,0n", 1, "@0", 2, "@0 ", 3, "@0n", 2, "@0;0n", 2, "@0,", 3, "@0,n", 3,
            "@0,0", 4, "@0,0 ", 5, "@0,0,n", 4, "@3,4n", -1, "@03,04n", -1, "@4,0n", 1,
            "@4", 1, "@42,0n", 2, "@42", 2, "@9", 1, "@04,0n", 2, "@10,0n", 2, "@99", 2,
            "@123,0n", 2, "@012,0n", 3, "@001,0n", 3, "@000", 3, "@0 0,0n", 3, "@0 1", 3,
            "@0,5n", 3, "@0,5", 3, "@0,05n", 4, "@0,10n", 4, "@0,42n", 4, "@0,423n", 4,
            "@0,012n", 5, "@0,002n", 5, "@0,01", 5, "@0,04 2n", -1, "@0,4 2n", -1, "@0,02n", -1,
            "@0,09n", 4, "@0,0 1n", 5, "@0,0 0n", 5, "  @  0  ,  0  n  ", -1, "\t@0,0n", 0,
            "@0,0\nn", 4, "@0,0" + (char) 160 + "n", 4, "@0,0n" + (char) 255, 5);
        SnowTracks wide = new SnowTracks(16, 12, 100);
        faults(wide,
            "@15,11n", -1, "@16,0n", 2, "@0,12n", 4, "@9,9n", -1, "@09,09n", -1, "@15", 3,
            "@151,0n", 3, "@160,0n", 2, "@15,112n", 6, "@15,11 2n", -1, "@1 5,0n", 3);
    }

    private static void faultsOfMoves() {
        SnowTracks yard = new SnowTracks(4, 4, 100);
        faults(yard,
            "@0,0n", -1, "@0,0e", -1, "@0,0s", -1, "@0,0w", -1, "@0,0z", -1, "@0,0b", -1,
            "@0,0N", 4, "@0,0a", 4, "@0,0nx", 5, "@0,0n,", 5, "@0,0n@", 5,
            "@0,0 2", 6, "@0,0 2 ", 7, "@0,0 2n", -1, "@0,0 9n", -1, "@0,0 2 n", -1,
            "@0,0 22n", 6, "@0,0 2 2n", 7, "@0,0n1", 5, "@0,0n0n", 5, "@0,0n2", 6, "@0,0n2e", -1,
            "@0,0(", 5, "@0,0( ", 6, "@0,0()", 5, "@0,0( )", 6, "@0,0(n", 6, "@0,0(n)", -1,
            "@0,0 ( n ) ", -1, "@0,0)", 4, "@0,0n)", 5, "@0,0(n))", 7, "@0,0(2)", 6,
            "@0,0(n2)", 7, "@0,0(n)2", 8, "@0,0(n)2(e)", -1, "@0,0((n)e)", -1, "@0,0((n)", 8,
            "@0,0(n)(n)(n)(n)", -1, "@0,0(((n)))", -1, "@0,0((((", 7, "@0,0 2(2(2(2(n))))", 12,
            "@0,0(((n)(n)(n)))", -1, "@0,0(((n)((n))))", 10, "@0,0((()", 7, "@0,0(n(e(s(w", 10,
            "@0,0nesw", -1, "@0,0n e s w", -1, "@0,0(n)e(s)", -1, "@0,0n\0e", -1);
    }

    private static void walking() {
        SnowTracks yard = new SnowTracks(4, 4, 100);
        Due.is("walk of nothing", yard.walk(1, 0), SnowTracks.NONE);
        Due.feed(yard, "@0,0n(");
        Due.is("walk with a FAULT", yard.walk(1, 0), SnowTracks.NONE);
        Due.is("a refused walk leaves the TAPE", yard.count(2), 6);
        yard.end(5);
        int[][] refused = {{0, 0}, {10, 0}, {-1, 0}, {1, -1}, {1, 10}, {Integer.MAX_VALUE, 0},
            {1, Integer.MIN_VALUE}};
        for (int[] one : refused) {
            Due.is("walk(" + one[0] + ", " + one[1] + ")", yard.walk(one[0], one[1]), -1);
        }
        Due.is("count of refused", yard.count(0), 0);
        Due.is("walk(1, 0)", yard.walk(1, 0), 0);
        Due.is("the TAPE is empty then", yard.count(2), 0);
        Due.is("walk(9, 9)", Due.walk(yard, "@1,1n", 9, 9), 1);
        for (int i = 2; i < 8; i++) {
            Due.is("walk " + i, Due.walk(yard, "@1,1n", 1, 1), i);
        }
        Due.is("a ninth", Due.walk(yard, "@1,1n", 1, 1), SnowTracks.NONE);
        Due.is("count of eight", yard.count(0), 8);
        Due.is("a ninth leaves the TAPE", yard.count(2), 5);
    }

    private static void telling() {
        SnowTracks yard = new SnowTracks(4, 4, 100);
        Due.noSuch(yard, 0, 0);
        Due.walk(yard, "@1,1 2e3z", 4, 7);
        int[] due = {5, 4, 7, 3, 0};
        for (int what = 0; what < 5; what++) {
            Due.is("told " + what, yard.told(0, what), due[what]);
        }
        yard.start(0, 33);
        Due.is("told START", yard.told(0, 4), 33);
        int[][] none = {{0, 5}, {0, -1}, {1, 0}, {-1, 0}, {8, 0}, {0, Integer.MAX_VALUE},
            {Integer.MIN_VALUE, 0}, {Integer.MAX_VALUE, 4}};
        for (int[] one : none) {
            Due.noSuch(yard, one[0], one[1]);
        }
    }

    /** What a text walks: its CELLS as x y, and its PRINTS. */
    private static void path(String text, String due, int prints) {
        SnowTracks yard = new SnowTracks(4, 3, 100);
        Due.is("walk of " + text, Due.walk(yard, text, 1, 0), 0);
        String[] cells = due.split(" ");
        Due.is("moments of " + text, yard.told(0, 0), cells.length - 1);
        for (int i = 0; i < cells.length; i++) {
            int cell = 16 * (cells[i].charAt(1) - '0') + cells[i].charAt(0) - '0';
            Due.is("where " + i + " of " + text, yard.where(0, i), cell);
        }
        Due.is("where behind " + text, yard.where(0, cells.length), SnowTracks.NONE);
        Due.is("prints of " + text, yard.told(0, 3), prints);
    }

    private static void movesAndPrints() {
        path("@1,1n", "11 10", 2);
        path("@1,1e", "11 21", 2);
        path("@1,1s", "11 12", 2);
        path("@1,1w", "11 01", 2);
        path("@1,1z", "11 11", 1);
        path("@1,1b", "11 11", 1);
        path("@0,0nw", "00 00 00", 1);
        path("@3,2es", "32 32 32", 1);
        path("@0,0 3e2e", "00 10 20 30 30 30", 4);
        path("@0,0 3s", "00 01 02 02", 3);
        path("@0,0eb", "00 10 00", 3);
        path("@0,0esbbb", "00 10 11 10 00 00", 5);
        path("@0,0ebsb", "00 10 00 01 00", 5);
        path("@0,0esbebbb", "00 10 11 10 20 10 00 00", 7);
        path("@0,0enb", "00 10 10 00", 3);
        path("@0,0ezb", "00 10 10 00", 3);
        path("@0,0ewbb", "00 10 00 10 00", 5);
        path("@0,0 2(es)", "00 10 11 21 22", 5);
        path("@0,0 2(e2(sn))", "00 10 11 10 11 10 20 21 20 21 20", 11);
        path("@0,0 (2(e)b)s", "00 10 20 10 11", 5);
        path("@0,0 2(2(2(e)))", "00 10 20 30 30 30 30 30 30", 4);
        path("@1,1 3 z 2 b e", "11 11 11 11 11 11 21", 2);
        path("@0,0 2(z)(s)2((2(e))b)", "00 00 00 01 11 21 11 21 31 21", 8);
        path("@0,0 (((e)))(((s)))((2(e)))", "00 10 11 21 31", 5);
        sixtyMoments();
    }

    private static void sixtyMoments() {
        String[] texts = {"@0,0 6(9z)6z", "@0,0 6(9z)7z", "@0,0 9(9(9(9z)))", "@0,0 9(7(ew))",
            "@0,0 6(9z)5zeeee", "@0,0 6(9z)5z2e"};
        int[] prints = {1, 1, 1, 61, 2, 2};
        for (int i = 0; i < texts.length; i++) {
            SnowTracks yard = new SnowTracks(4, 4, 100);
            Due.walk(yard, texts[i], 1, 0);
            Due.is("last MOMENT of " + texts[i], yard.told(0, 0), 60);
            Due.is("PRINTS of " + texts[i], yard.told(0, 3), prints[i]);
            Due.is("where 61 of " + texts[i], yard.where(0, 61), SnowTracks.NONE);
        }
        SnowTracks yard = new SnowTracks(4, 4, 100);
        Due.walk(yard, "@0,0 6(9z)5z", 1, 0);
        Due.is("59 MOMENTS", yard.told(0, 0), 59);
    }

    private static void places() {
        SnowTracks yard = new SnowTracks(16, 16, 100);
        Due.is("prints of no WALKS", yard.prints(0, 0), 0);
        Due.walk(yard, "@15,15 n2(ew)z", 2, 0);
        Due.walk(yard, "@14,14 e", 2, 0);
        Due.is("where corner", yard.where(0, 0), 255);
        Due.is("where -1", yard.where(0, -1), SnowTracks.NONE);
        Due.is("where of none", yard.where(2, 0), SnowTracks.NONE);
        Due.is("where of -1", yard.where(-1, 0), SnowTracks.NONE);
        Due.is("where far", yard.where(0, Integer.MAX_VALUE), SnowTracks.NONE);
        // 15,15 n 15,14 e none w 14,14 e 15,14 w 14,14 z none
        Due.is("latest 15 15", yard.latest(0, 15, 15), 0);
        Due.is("latest 15 14", yard.latest(0, 15, 14), 4);
        Due.is("latest 14 14", yard.latest(0, 14, 14), 5);
        Due.is("latest without PRINT", yard.latest(0, 13, 14), SnowTracks.NONE);
        int[][] none = {{-1, 15, 15}, {2, 15, 15}, {0, 16, 15}, {0, 15, 16}, {0, -1, 15},
            {0, 15, -1}, {Integer.MIN_VALUE, 0, 0}, {0, Integer.MAX_VALUE, Integer.MAX_VALUE},
            {0, 31, 14}, {0, -1, 16}};
        for (int[] one : none) {
            Due.is("latest " + one[0] + " " + one[1] + " " + one[2],
                yard.latest(one[0], one[1], one[2]), SnowTracks.NONE);
        }
        Due.is("prints 15 15", yard.prints(15, 15), 1);
        Due.is("prints 15 14", yard.prints(15, 14), 3);
        Due.is("prints 0 0", yard.prints(0, 0), 0);
        Due.is("prints 16 0", yard.prints(16, 0), SnowTracks.NONE);
        Due.is("prints 0 16", yard.prints(0, 16), SnowTracks.NONE);
        Due.is("prints -1 1", yard.prints(-1, 1), SnowTracks.NONE);
        Due.is("prints 0 -1", yard.prints(0, -1), SnowTracks.NONE);
        SnowTracks small = new SnowTracks(2, 3, 10);
        Due.is("prints in a small yard", small.prints(1, 2), 0);
        Due.is("prints beside a small yard", small.prints(2, 2), SnowTracks.NONE);
        Due.is("prints below a small yard", small.prints(1, 3), SnowTracks.NONE);
        standingLeavesNoPrint();
        eachWalkGoesBackAlone();
    }

    private static void eachWalkGoesBackAlone() {
        SnowTracks yard = new SnowTracks(4, 4, 100);
        Due.walk(yard, "@0,0 3e 2(s", 1, 0);
        Due.walk(yard, "@0,0 3e 2(2s)", 1, 0);
        Due.walk(yard, "@1,1 b s 2b", 1, 0);
        int[] due = {17, 17, 33, 17, 17};
        for (int i = 0; i < due.length; i++) {
            Due.is("a WALK goes back over its own STEPS, " + i, yard.where(1, i), due[i]);
        }
        Due.is("its first WALK", yard.told(0, 0), 7);
    }

    private static void standingLeavesNoPrint() {
        SnowTracks yard = new SnowTracks(4, 4, 100);
        Due.walk(yard, "@1,0 z n 2z w z n b 3z", 1, 0);
        // MOMENTS: 0 1,0; 5 0,0 by w; 6 z; 7 none; 8 b to 1,0; then stands
        Due.is("latest where one stood", yard.latest(0, 0, 0), 5);
        Due.is("latest after going back", yard.latest(0, 1, 0), 8);
        Due.is("prints without standing", yard.told(0, 3), 3);
    }
}
