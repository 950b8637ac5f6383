/** Terms 2 on SETS and promises 13 to 18: each sentence that names an edge has a test of its own. */
final class EdgesOfSetsTest {
    private static final int NONE = SnowTracks.NONE;
    private static final int HIDDEN = SnowTracks.HIDDEN;
    private static final int LOW = Integer.MIN_VALUE;
    private static final int HIGH = Integer.MAX_VALUE;

    private EdgesOfSetsTest() {
    }

    public static void main(String[] args) {
        startsForAllWalks();
        startsOfTheDay();
        emptySet();
        noSuchFacts();
        noSuchFactsOfTwenty();
        barsUpToIt();
        barsNone();
        coreOfOne();
        leastPart();
        moreThan12();
        fewestPersons();
        lowerPersonWhereTwoDiffer();
        canWithoutLiars();
        canNotWithoutAnyWords();
        wordsOfTheSetAlone();
        firstAndLast();
        beginsNone();
        leastAndGreatestGap();
        gapOfOne();
        gapHidden();
        Due.end("EdgesOfSetsTest");
    }

    private static SnowTracks yardOf(int walks, int day) {
        SnowTracks yard = new SnowTracks(2, 2, day);
        for (int i = 0; i < walks; i++) {
            Due.walk(yard, "@0,0 z", 1, 0);
        }
        return yard;
    }

    private static void began(SnowTracks yard, int who, int walk, int from, int to) {
        Due.is("BEGAN", yard.fact(who, 3, walk, 0, from, to) == NONE, false);
    }

    private static void behind(SnowTracks yard, int who, int a, int b, int ticks) {
        Due.is("BEHIND", yard.fact(who, 4, a, b, ticks, 0) == NONE, false);
    }

    private static void startsForAllWalks() {
        Due.says("CAN be, if there are STARTS, for all WALKS, by which each of them holds");
        SnowTracks yard = yardOf(3, 20);
        behind(yard, 0, 1, 0, 10);
        behind(yard, 0, 2, 1, 10);
        behind(yard, 0, 2, 1, 11);
        behind(yard, 0, 0, 2, -20);
        behind(yard, 0, 0, 2, -19);
        int[][] due = {{1, 1}, {2, 1}, {4, 1}, {3, 1}, {5, 0}, {11, 1}, {19, 0}, {9, 1}, {31, 0}, {18, 1}};
        for (int[] d : due) {
            Due.is("can " + d[0], yard.can(d[0]), d[1]);
        }
    }

    private static void startsOfTheDay() {
        Due.says("its START is a tick of the DAY, not known");
        SnowTracks yard = yardOf(2, 10);
        behind(yard, 0, 1, 0, 10);
        behind(yard, 0, 1, 0, 11);
        behind(yard, 0, 0, 1, -10);
        behind(yard, 0, 0, 1, 10);
        int[] can = {1, 0, 1, 1};
        for (int i = 0; i < 4; i++) {
            Due.is("can " + i, yard.can(1 << i), can[i]);
        }
        Due.is("0 at tick 0", yard.begins(1, 0, 1), 0);
        Due.is("1 at the last tick", yard.begins(1, 1, 0), 10);
        Due.is("FIRST without FACTS", yard.begins(0, 0, 0), 0);
        Due.is("LAST without FACTS", yard.begins(0, 0, 1), 10);
    }

    private static void emptySet() {
        Due.says("Whether a SET CAN be (1, 0).");
        Due.is("nothing at all", new SnowTracks(2, 2, 10).can(0), 1);
        SnowTracks yard = yardOf(8, 10);
        Due.is("no FACTS", yard.can(0), 1);
        behind(yard, 0, 1, 0, 11);
        Due.is("none of the FACTS", yard.can(0), 1);
        Due.is("one that can not be", yard.can(1), 0);
    }

    private static void asksNone(SnowTracks yard, int set) {
        Due.is("can " + set, yard.can(set), NONE);
        Due.is("bars " + set, yard.bars(set), NONE);
        Due.is("core " + set, yard.core(set), NONE);
        Due.is("liars " + set, yard.liars(set), NONE);
        Due.is("begins " + set, yard.begins(set, 0, 0), NONE);
        Due.is("gap " + set, yard.gap(set, 0, 1, 0), HIDDEN);
    }

    private static void noSuchFacts() {
        Due.says("NONE: no such FACTS.");
        SnowTracks yard = yardOf(2, 10);
        for (int bit = 0; bit < 32; bit++) {
            asksNone(yard, 1 << bit);
        }
        began(yard, 0, 0, 1, 2);
        began(yard, 1, 0, 3, 4);
        Due.is("those that there are", yard.can(3), 0);
        for (int bit = 2; bit < 32; bit++) {
            asksNone(yard, 1 << bit);
            asksNone(yard, 1 << bit | 3);
        }
        asksNone(yard, -1);
        asksNone(yard, HIGH);
        yard.undo();
        asksNone(yard, 2);
        asksNone(yard, 3);
        Due.is("the one that is left", yard.can(1), 1);
    }

    private static void noSuchFactsOfTwenty() {
        Due.says("NONE: no such FACTS.");
        SnowTracks yard = yardOf(2, 10);
        for (int i = 0; i < 19; i++) {
            began(yard, 0, 0, 0, 10);
        }
        began(yard, 1, 0, 5, 5);
        Due.is("all twenty", yard.can((1 << 20) - 1), 1);
        Due.is("all twenty", yard.begins((1 << 20) - 1, 0, 0), 5);
        for (int bit = 20; bit < 32; bit++) {
            asksNone(yard, 1 << bit);
            asksNone(yard, 1 << bit | (1 << 20) - 1);
        }
    }

    private static void barsUpToIt() {
        Due.says("BARS: the lowest FACT of a SET with which those of the SET up to it can not be.");
        SnowTracks yard = yardOf(2, 20);
        began(yard, 0, 0, 0, 5);
        began(yard, 0, 1, 0, 5);
        behind(yard, 0, 1, 0, 6);
        began(yard, 0, 0, 6, 9);
        behind(yard, 0, 0, 1, 21);
        int[][] due = {{1, NONE}, {3, NONE}, {5, NONE}, {6, 2}, {7, 2}, {9, 3}, {11, 3}, {15, 2}, {16, 4},
            {17, 4}, {25, 3}, {31, 2}, {14, 2}, {12, NONE}, {10, NONE}, {28, 4}};
        for (int[] d : due) {
            Due.is("bars " + d[0], yard.bars(d[0]), d[1]);
        }
        SnowTracks full = yardOf(2, 20);
        for (int i = 0; i < 19; i++) {
            began(full, 0, 0, 0, 5);
        }
        began(full, 0, 0, 6, 9);
        Due.is("the twentieth bars", full.bars((1 << 20) - 1), 19);
        Due.is("it does not alone", full.bars(1 << 19), NONE);
    }

    private static void barsNone() {
        Due.says("BARS. NONE: it can be, no such FACTS.");
        SnowTracks yard = yardOf(2, 20);
        Due.is("no FACTS", yard.bars(0), NONE);
        behind(yard, 0, 0, 1, 20);
        behind(yard, 0, 0, 1, 21);
        Due.is("none of them", yard.bars(0), NONE);
        Due.is("it can be", yard.bars(1), NONE);
        Due.is("FACT 1", yard.bars(2), 1);
        Due.is("no such", yard.bars(6), NONE);
        Due.is("no such", yard.bars(LOW), NONE);
    }

    private static void coreOfOne() {
        Due.says("CORE. NONE: it can be, more than 12 FACTS, no such ones.");
        SnowTracks yard = yardOf(2, 20);
        Due.is("no FACTS", yard.core(0), NONE);
        behind(yard, 0, 0, 1, 21);
        behind(yard, 0, 0, 1, 20);
        yard.fact(0, 2, 0, 0, 0, 0);
        Due.is("one", yard.core(1), 1);
        Due.is("one of two", yard.core(3), 1);
        Due.is("it can be", yard.core(2), NONE);
        Due.is("it can be", yard.core(0), NONE);
        // START 0 at 20 at least, and at 0
        Due.is("two", yard.core(6), 2);
        Due.is("one of three", yard.core(7), 1);
        Due.is("no such", yard.core(9), NONE);
    }

    /** A ring of all eight, and nine by a row between two ends: no least part has more. */
    private static void leastPart() {
        Due.says("CORE: of how many FACTS the least part of a SET consists that can not be.");
        SnowTracks ring = yardOf(8, 100);
        for (int i = 0; i < 8; i++) {
            behind(ring, 0, (i + 1) % 8, i, i == 7 ? -69 : 10);
        }
        Due.is("eight", ring.core(255), 8);
        behind(ring, 0, 0, 4, -39);
        Due.is("five of nine", ring.core(511), 5);
        behind(ring, 0, 0, 1, -9);
        Due.is("two of ten", ring.core(1023), 2);
        SnowTracks row = yardOf(8, 100);
        for (int i = 0; i < 7; i++) {
            behind(row, 0, i + 1, i, 10);
        }
        began(row, 0, 0, 20, 100);
        began(row, 0, 7, 0, 89);
        Due.is("nine", row.core(511), 9);
        row.undo();
        began(row, 0, 7, 0, 90);
        Due.is("none", row.core(511), NONE);
        began(row, 0, 0, 31, 100);
        Due.is("eight, by the DAY's end", row.core(1023), 8);
    }

    private static void moreThan12() {
        Due.says("more than 12 FACTS");
        SnowTracks yard = yardOf(2, 20);
        for (int i = 0; i < 12; i++) {
            began(yard, 0, 0, 0, 5);
        }
        began(yard, 0, 0, 6, 9);
        for (int i = 13; i < 20; i++) {
            began(yard, 0, 1, 0, 5);
        }
        Due.is("2 of 20", yard.core(1 + 4096), 2);
        Due.is("12 of 20", yard.core(8191 - 1), 2);
        Due.is("12 of 20, the last ones", yard.core(0xFF000 + 0x78), 2);
        Due.is("13 of 20", yard.core(8191), NONE);
        Due.is("20 of 20", yard.core((1 << 20) - 1), NONE);
        Due.is("they can not be", yard.can((1 << 20) - 1), 0);
        Due.is("13 that can be", yard.core(0xFFF + 0x2000), NONE);
    }

    private static void fewestPersons() {
        Due.says("the fewest PERSONS without whose FACTS it CAN");
        SnowTracks yard = yardOf(4, 20);
        for (int walk = 0; walk < 4; walk++) {
            began(yard, walk, walk, 0, 5);
        }
        for (int walk = 0; walk < 4; walk++) {
            began(yard, 5, walk, 6, 9);
        }
        Due.is("one that four contradict", yard.liars(255), 32);
        Due.is("of two the lower", yard.liars(1 + 16), 1);
        Due.is("one that two contradict", yard.liars(1 + 2 + 16 + 32), 32);
        for (int walk = 0; walk < 4; walk++) {
            began(yard, 4, walk, 10, 12);
        }
        Due.is("two that four contradict", yard.liars(4095), 48);
        began(yard, -1, 0, 6, 9);
        // 0 and 4 must go; then 5, or else 1, 2 and 3
        Due.is("the GROUND stands by one of them", yard.liars(8191), 1 + 16 + 32);
    }

    private static void lowerPersonWhereTwoDiffer() {
        Due.says("(of several the one with the lower PERSON where two first differ)");
        SnowTracks yard = yardOf(3, 20);
        int[][] pairs = {{0, 5}, {1, 2}, {3, 4}};
        for (int i = 0; i < 3; i++) {
            began(yard, pairs[i][1], i, 0, 5);
            began(yard, pairs[i][0], i, 6, 9);
        }
        Due.is("0 or 5", yard.liars(3), 1);
        Due.is("1 or 2", yard.liars(12), 2);
        Due.is("3 or 4", yard.liars(48), 8);
        Due.is("one of each", yard.liars(63), 1 + 2 + 8);
        // 0 and 5, or 1 and 2: the first differ as 0 and 1, though 5 is the greatest of all
        SnowTracks crossed = yardOf(4, 20);
        int[][] against = {{0, 1}, {0, 2}, {5, 1}, {5, 2}};
        for (int i = 0; i < 4; i++) {
            began(crossed, against[i][0], i, 0, 5);
            began(crossed, against[i][1], i, 6, 9);
        }
        Due.is("0 and 5, not 1 and 2", crossed.liars(255), 1 + 32);
        // 0 must go; then 3 or 4
        Due.is("the lower where two first differ", yard.liars(1 + 2 + 16 + 32), 1 + 8);
    }

    private static void canWithoutLiars() {
        Due.says("LIARS, as bits. NONE: the SET can be");
        SnowTracks yard = yardOf(2, 20);
        Due.is("no FACTS", yard.liars(0), NONE);
        for (int who = 0; who <= 5; who++) {
            began(yard, who, 0, who, 20);
            behind(yard, who, 1, 0, 21);
        }
        Due.is("none of them", yard.liars(0), NONE);
        for (int who = 0; who <= 5; who++) {
            Due.is("it can be", yard.liars(1 << 2 * who), NONE);
            Due.is(who + " alone", yard.liars(2 << 2 * who), 1 << who);
        }
        Due.is("all can be", yard.liars(0x555), NONE);
        Due.is("all lie", yard.liars(0xAAA), 63);
        Due.is("all lie", yard.liars(0xFFF), 63);
    }

    private static void canNotWithoutAnyWords() {
        Due.says("or can not without any words; no such FACTS.");
        SnowTracks yard = yardOf(2, 20);
        behind(yard, -1, 0, 1, 21);
        behind(yard, 0, 0, 1, 21);
        began(yard, -1, 0, 5, 6);
        began(yard, -1, 0, 7, 8);
        Due.is("the GROUND alone", yard.liars(1), NONE);
        Due.is("the GROUND and one", yard.liars(3), NONE);
        Due.is("the GROUND by two", yard.liars(4 + 8), NONE);
        Due.is("the GROUND by two, and one", yard.liars(2 + 4 + 8), NONE);
        Due.is("one of both, and one", yard.liars(2 + 4), 1);
        Due.is("no such", yard.liars(16 + 2), NONE);
        SnowTracks full = yardOf(2, 20);
        for (int i = 0; i < 20; i++) {
            behind(full, i % 7 - 1, 0, 1, i % 7 == 0 ? 0 : 21);
        }
        Due.is("twenty", full.liars((1 << 20) - 1), 63);
        Due.is("the twentieth", full.liars(1 << 19), 1 << 4);
    }

    private static void wordsOfTheSetAlone() {
        Due.says("LIARS of a SET that can not be");
        SnowTracks yard = yardOf(2, 20);
        began(yard, 3, 0, 0, 5);
        began(yard, 1, 0, 6, 9);
        began(yard, 0, 0, 6, 9);
        began(yard, 2, 1, 6, 9);
        Due.is("3 against 0 and 1", yard.liars(7), 8);
        Due.is("3 against 1", yard.liars(3), 2);
        Due.is("3 against 0", yard.liars(5), 1);
        Due.is("2 says nothing of it", yard.liars(11), 2);
        Due.is("0 and 1 agree", yard.liars(6), NONE);
    }

    private static void firstAndLast() {
        Due.says("FIRST, LAST of a WALK: its least, its greatest START of those.");
        SnowTracks yard = yardOf(3, 100);
        behind(yard, 0, 1, 0, 40);
        behind(yard, 0, 2, 1, 60);
        behind(yard, 0, 2, 1, 50);
        int[][] due = {{0, 0, 100, 0, 100, 0, 100}, {1, 0, 60, 40, 100, 0, 100}, {3, 0, 0, 40, 40, 100, 100},
            {5, 0, 10, 40, 50, 90, 100}, {2, 0, 100, 0, 40, 60, 100}};
        for (int[] d : due) {
            for (int walk = 0; walk < 3; walk++) {
                Due.is("FIRST of " + walk + " by " + d[0], yard.begins(d[0], walk, 0), d[1 + 2 * walk]);
                Due.is("LAST of " + walk + " by " + d[0], yard.begins(d[0], walk, 1), d[2 + 2 * walk]);
            }
        }
    }

    private static void beginsNone() {
        Due.says("FIRST (what 0), LAST (1). NONE: it can not be, no such ones.");
        SnowTracks yard = yardOf(2, 20);
        Due.is("without WALKS", new SnowTracks(2, 2, 20).begins(0, 0, 0), NONE);
        behind(yard, 0, 0, 1, 21);
        int[][] none = {{1, 0, 0}, {1, 1, 1}, {0, 2, 0}, {0, -1, 0}, {0, 8, 1}, {0, LOW, 0}, {0, HIGH, 0},
            {0, 0, 2}, {0, 0, -1}, {0, 0, LOW}, {0, 0, HIGH}, {2, 0, 0}, {-1, 0, 0}};
        for (int[] n : none) {
            Due.is("begins " + java.util.Arrays.toString(n), yard.begins(n[0], n[1], n[2]), NONE);
        }
        SnowTracks full = yardOf(8, 20);
        Due.is("the eighth", full.begins(0, 7, 1), 20);
        Due.is("a ninth", full.begins(0, 8, 1), NONE);
    }

    private static void leastAndGreatestGap() {
        Due.says("GAP of a and b: START of b less that of a: the least, the greatest.");
        SnowTracks yard = yardOf(3, 2000);
        Due.is("least", yard.gap(0, 0, 1, 0), -2000);
        Due.is("greatest", yard.gap(0, 0, 1, 1), 2000);
        behind(yard, 0, 1, 0, 2000);
        behind(yard, 0, 2, 1, -3);
        behind(yard, 0, 2, 0, 2);
        Due.is("2000 or more", yard.gap(1, 0, 1, 0), 2000);
        Due.is("2000 or more", yard.gap(1, 1, 0, 1), -2000);
        Due.is("by way of another", yard.gap(3, 0, 2, 0), 1997);
        Due.is("by way of another", yard.gap(3, 2, 0, 0), -2000);
        Due.is("straight", yard.gap(4, 0, 2, 0), 2);
        Due.is("straight", yard.gap(4, 2, 0, 1), -2);
        Due.is("-3 or more", yard.gap(2, 1, 2, 0), -3);
        Due.is("3 or less", yard.gap(2, 2, 1, 1), 3);
    }

    private static void gapOfOne() {
        Due.says("GAP: the least (0), the greatest (1).");
        SnowTracks yard = yardOf(2, 20);
        behind(yard, 0, 0, 1, 5);
        for (int what = 0; what <= 1; what++) {
            Due.is("of 0 and 0", yard.gap(1, 0, 0, what), 0);
            Due.is("of 1 and 1", yard.gap(0, 1, 1, what), 0);
        }
    }

    private static void gapHidden() {
        Due.says("HIDDEN: it can not be, no such ones.");
        SnowTracks yard = yardOf(2, 20);
        behind(yard, 0, 0, 1, 21);
        int[][] hidden = {{1, 0, 1, 0}, {1, 0, 0, 0}, {1, 0, 1, 1}, {0, 2, 0, 0}, {0, 0, 2, 0}, {0, -1, 0, 0},
            {0, 0, -1, 0}, {0, 8, 0, 0}, {0, 0, 8, 0}, {0, 0, 1, 2}, {0, 0, 1, -1}, {0, LOW, 0, 0},
            {0, 0, HIGH, 0}, {0, 0, 1, LOW}, {0, 0, 1, HIGH}, {2, 0, 1, 0}, {-1, 0, 1, 0}, {LOW, 0, 1, 0}};
        for (int[] h : hidden) {
            Due.is("gap " + java.util.Arrays.toString(h), yard.gap(h[0], h[1], h[2], h[3]), HIDDEN);
        }
        Due.is("without WALKS", new SnowTracks(2, 2, 20).gap(0, 0, 0, 0), HIDDEN);
    }
}
