/** Promises 13 to 18: what CAN be, BARS, CORE, LIARS, FIRST and LAST, GAPS. */
final class SetsTest {
    private static final int LOW = Integer.MIN_VALUE;
    private static final int HIGH = Integer.MAX_VALUE;

    private SetsTest() {
    }

    public static void main(String[] args) {
        withoutFacts();
        noSuchFacts();
        canAndBars();
        cores();
        coresOfMany();
        liars();
        liarsByTheGround();
        begins();
        gaps();
        chains();
        laterWalks();
        Due.end("SetsTest");
    }

    /** Three WALKS that begin in 0,0 and stand there one MOMENT. */
    private static SnowTracks three(int day) {
        SnowTracks yard = new SnowTracks(4, 4, day);
        for (int i = 0; i < 3; i++) {
            Due.walk(yard, "@0,0 z", 1 + i, i);
        }
        return yard;
    }

    private static void began(SnowTracks yard, int who, int walk, int from, int to) {
        yard.fact(who, 3, walk, 0, from, to);
    }

    private static void behind(SnowTracks yard, int who, int a, int b, int ticks) {
        yard.fact(who, 4, a, b, ticks, 0);
    }

    private static void withoutFacts() {
        SnowTracks yard = new SnowTracks(4, 4, 10);
        Due.is("can without anything", yard.can(0), 1);
        Due.is("bars without anything", yard.bars(0), SnowTracks.NONE);
        Due.is("core without anything", yard.core(0), SnowTracks.NONE);
        Due.is("liars without anything", yard.liars(0), SnowTracks.NONE);
        Due.is("begins without WALKS", yard.begins(0, 0, 0), SnowTracks.NONE);
        Due.is("gap without WALKS", yard.gap(0, 0, 0, 0), SnowTracks.HIDDEN);
    }

    private static void noSuchFacts() {
        SnowTracks yard = three(100);
        began(yard, 0, 0, 10, 20);
        began(yard, 1, 0, 30, 40);
        for (int set : new int[] {4, 7, -1, LOW, HIGH, 1 << 20, 1 << 30, LOW | 3}) {
            Due.is("can " + set, yard.can(set), SnowTracks.NONE);
            Due.is("bars " + set, yard.bars(set), SnowTracks.NONE);
            Due.is("core " + set, yard.core(set), SnowTracks.NONE);
            Due.is("liars " + set, yard.liars(set), SnowTracks.NONE);
            Due.is("begins " + set, yard.begins(set, 0, 0), SnowTracks.NONE);
            Due.is("gap " + set, yard.gap(set, 0, 1, 0), SnowTracks.HIDDEN);
        }
    }

    private static void canAndBars() {
        SnowTracks yard = three(100);
        began(yard, 0, 0, 10, 20);
        began(yard, 0, 0, 20, 30);
        began(yard, 0, 0, 21, 30);
        behind(yard, 0, 1, 0, 80);
        behind(yard, 0, 0, 1, -79);
        behind(yard, 0, 2, 1, 101);
        int[][] due = {{0, 1, -1}, {1, 1, -1}, {3, 1, -1}, {5, 0, 2}, {6, 1, -1}, {7, 0, 2},
            {8, 1, -1}, {24, 0, 4}, {16, 1, -1}, {10, 1, -1}, {12, 0, 3}, {32, 0, 5}, {63, 0, 2},
            {58, 0, 4}, {33, 0, 5}, {11, 1, -1}};
        for (int[] d : due) {
            Due.is("can " + d[0], yard.can(d[0]), d[1]);
            Due.is("bars " + d[0], yard.bars(d[0]), d[2]);
        }
        // a DAY's edges: WALK 1 begins 100 behind WALK 0, or 101
        SnowTracks edge = three(100);
        behind(edge, 0, 1, 0, 100);
        behind(edge, 0, 1, 0, 101);
        Due.is("can 100 behind", edge.can(1), 1);
        Due.is("can 101 behind", edge.can(2), 0);
        Due.is("bars 101 behind", edge.bars(3), 1);
    }

    private static void cores() {
        SnowTracks yard = three(100);
        behind(yard, 0, 1, 0, 1);
        behind(yard, 0, 2, 1, 1);
        behind(yard, 0, 0, 2, -1);
        behind(yard, 0, 0, 1, 0);
        began(yard, 0, 0, 50, 60);
        began(yard, 0, 2, 40, 51);
        behind(yard, 0, 0, 2, 200);
        int[][] due = {{0, -1}, {7, 3}, {3, -1}, {9, 2}, {15, 2}, {11, 2}, {14, -1}, {51, 4},
            {48, -1}, {64, 1}, {127, 1}, {63, 2}, {65, 1}, {55, 3}};
        for (int[] d : due) {
            Due.is("core " + d[0], yard.core(d[0]), d[1]);
        }
    }

    private static void coresOfMany() {
        SnowTracks yard = three(100);
        for (int i = 0; i < 11; i++) {
            began(yard, 0, 0, i, 50);
        }
        began(yard, 0, 0, 51, 60);
        began(yard, 0, 0, 52, 60);
        Due.is("core of 12", yard.core((1 << 12) - 1), 2);
        Due.is("core of 13", yard.core((1 << 13) - 1), SnowTracks.NONE);
        Due.is("can of 13", yard.can((1 << 13) - 1), 0);
        Due.is("core of 12 of 13", yard.core((1 << 13) - 2), 2);
        SnowTracks ring = new SnowTracks(4, 4, 100);
        for (int i = 0; i < 8; i++) {
            Due.walk(ring, "@0,0 z", 1, 0);
        }
        for (int i = 0; i < 8; i++) {
            behind(ring, 0, (i + 1) % 8, i, i == 7 ? -6 : 1);
        }
        began(ring, 0, 3, 10, 20);
        Due.is("core of a ring of 8", ring.core(255), 8);
        Due.is("core of a ring and one more", ring.core(511), 8);
        Due.is("core of an open ring", ring.core(254), SnowTracks.NONE);
        SnowTracks row = new SnowTracks(4, 4, 100);
        for (int i = 0; i < 8; i++) {
            Due.walk(row, "@0,0 z", 1, 0);
        }
        for (int i = 0; i < 7; i++) {
            behind(row, 0, i + 1, i, 10);
        }
        began(row, 0, 0, 20, 30);
        began(row, 0, 7, 80, 89);
        Due.is("core of a row that is too long", row.core(511), 9);
        Due.is("core that the DAY's end makes", row.core(255), SnowTracks.NONE);
        row.undo();
        began(row, 0, 0, 31, 40);
        Due.is("core that the DAY's end makes", row.core(256 + 127), 8);
    }

    private static void liars() {
        SnowTracks yard = three(100);
        began(yard, -1, 0, 10, 20);
        began(yard, 3, 0, 30, 40);
        began(yard, 1, 1, 10, 20);
        began(yard, 5, 1, 30, 40);
        began(yard, 4, 1, 50, 60);
        began(yard, 2, 2, 10, 20);
        began(yard, 0, 2, 30, 40);
        Due.is("liars of what can be", yard.liars(1), SnowTracks.NONE);
        Due.is("liar against the GROUND", yard.liars(3), 8);
        Due.is("of two the lower", yard.liars(4 + 8), 2);
        Due.is("of two the lower", yard.liars(8 + 16), 16);
        Due.is("two of three", yard.liars(4 + 8 + 16), 2 + 16);
        Due.is("of two the lower, not the first told", yard.liars(32 + 64), 1);
        Due.is("many", yard.liars(127), 1 + 2 + 8 + 16);
        Due.is("those of two pairs", yard.liars(4 + 8 + 32 + 64), 3);
        SnowTracks hub = three(100);
        began(hub, 0, 0, 10, 20);
        began(hub, 1, 1, 10, 20);
        began(hub, 5, 0, 30, 40);
        began(hub, 5, 1, 30, 40);
        Due.is("the fewest, not the lowest", hub.liars(15), 32);
        began(hub, 0, 2, 10, 20);
        began(hub, 4, 2, 30, 40);
        Due.is("the lower where two first differ", hub.liars(63), 3);
        Due.is("a liar has all words taken", hub.liars(3 + 4 + 16 + 32), 1);
    }

    private static void liarsByTheGround() {
        SnowTracks yard = three(100);
        began(yard, -1, 0, 10, 20);
        began(yard, -1, 0, 30, 40);
        began(yard, 0, 0, 50, 60);
        behind(yard, 2, 1, 0, 101);
        Due.is("can not without any words", yard.liars(3), SnowTracks.NONE);
        Due.is("can not without any words", yard.liars(7), SnowTracks.NONE);
        Due.is("one alone can lie", yard.liars(8), 4);
        Due.is("one alone can lie, others too", yard.liars(8 + 4 + 1), 5);
        Due.is("an honest one", yard.liars(8 + 4), 4);
    }

    private static void begins() {
        SnowTracks yard = three(100);
        began(yard, 0, 1, 30, 60);
        behind(yard, 0, 1, 0, 5);
        behind(yard, 0, 2, 1, 45);
        behind(yard, 0, 0, 1, -7);
        began(yard, 0, 1, 70, 80);
        int[][] due = {{0, 0, 0, 100}, {1, 1, 30, 60}, {1, 0, 0, 100}, {3, 0, 0, 55},
            {7, 0, 0, 50}, {7, 1, 30, 55}, {7, 2, 75, 100}, {15, 0, 23, 50}, {15, 1, 30, 55}};
        for (int[] d : due) {
            Due.is("FIRST of " + d[1] + " by " + d[0], yard.begins(d[0], d[1], 0), d[2]);
            Due.is("LAST of " + d[1] + " by " + d[0], yard.begins(d[0], d[1], 1), d[3]);
        }
        int[][] none = {{17, 0, 0}, {17, 1, 1}, {0, 3, 0}, {0, -1, 0}, {0, 0, 2}, {0, 0, -1},
            {0, LOW, 0}, {0, HIGH, 1}, {0, 0, HIGH}};
        for (int[] n : none) {
            Due.is("begins of none", yard.begins(n[0], n[1], n[2]), SnowTracks.NONE);
        }
    }

    private static void gaps() {
        SnowTracks yard = three(100);
        behind(yard, 0, 1, 0, 5);
        behind(yard, 0, 0, 1, -7);
        behind(yard, 0, 2, 1, 10);
        began(yard, 0, 0, 10, 20);
        began(yard, 0, 0, 30, 40);
        int[][] due = {{0, 0, 1, -100, 100}, {1, 0, 1, 5, 100}, {1, 1, 0, -100, -5},
            {3, 0, 1, 5, 7}, {3, 1, 0, -7, -5}, {7, 0, 2, 15, 100}, {7, 2, 0, -100, -15},
            {15, 0, 2, 15, 90}, {8, 0, 1, -20, 90}, {0, 1, 1, 0, 0}, {15, 2, 2, 0, 0}};
        for (int[] d : due) {
            Due.is("least GAP by " + d[0], yard.gap(d[0], d[1], d[2], 0), d[3]);
            Due.is("greatest GAP by " + d[0], yard.gap(d[0], d[1], d[2], 1), d[4]);
        }
        int[][] hidden = {{24, 0, 1, 0}, {24, 0, 0, 1}, {0, 3, 0, 0}, {0, 0, 3, 0}, {0, -1, 0, 0},
            {0, 0, -1, 1}, {0, 0, 1, 2}, {0, 0, 1, -1}, {0, LOW, HIGH, 0}};
        for (int[] h : hidden) {
            Due.is("gap of none", yard.gap(h[0], h[1], h[2], h[3]), SnowTracks.HIDDEN);
        }
    }

    /** Eight WALKS in a row, each 250 behind another: the longest DAY just has them. */
    private static void chains() {
        SnowTracks yard = new SnowTracks(16, 16, 2000);
        for (int i = 0; i < 8; i++) {
            Due.walk(yard, "@15,15 6(9(nw))", 9, 9);
        }
        for (int i = 0; i < 7; i++) {
            behind(yard, 0, i, i + 1, 285);
        }
        Due.is("can be in a row", yard.can(127), 1);
        Due.is("FIRST of the last", yard.begins(127, 0, 0), 1995);
        Due.is("LAST of the first", yard.begins(127, 7, 1), 5);
        Due.is("their SPAN", yard.span(127), 40);
        began(yard, 0, 7, 5, 2000);
        Due.is("one more tick", yard.span(255), 0);
        yard.undo();
        began(yard, 0, 7, 6, 2000);
        Due.is("one tick too many", yard.can(255), 0);
        for (int i = 0; i < 10; i++) {
            behind(yard, 0, i % 7, i % 7 + 1, 5000);
            behind(yard, 0, i % 7 + 1, i % 7, 5000);
        }
        Due.is("can not at all", yard.can((1 << 20) - 1), 0);
        Due.is("bars of it", yard.bars((1 << 20) - 1), 7);
        Due.is("bars of the rest", yard.bars((1 << 20) - 256), 8);
    }

    /** WALKS that come after FACTS are among all WALKS, too. */
    private static void laterWalks() {
        SnowTracks yard = three(100);
        began(yard, 0, 0, 10, 20);
        Due.is("SPAN of three", yard.span(1), 210);
        Due.walk(yard, "@0,0 z", 1, 0);
        Due.is("SPAN of four", yard.span(1), 310);
        Due.is("FIRST is as it was", yard.begins(1, 0, 0), 10);
        Due.is("LAST of the new one", yard.begins(1, 3, 1), 100);
    }
}
