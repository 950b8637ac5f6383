/** Promises 19 to 26: CROSSINGS, SURE, AHEAD, SPAN, LOOK, MEETS, ONE, WALKERS. */
final class CrossingsTest {
    private static final int LOW = Integer.MIN_VALUE;
    private static final int HIGH = Integer.MAX_VALUE;
    /** A SET that can not be, and some without such FACTS, for yard(). */
    private static final int[] NO_SETS = {3, 4, -1, LOW, HIGH};

    private CrossingsTest() {
    }

    public static void main(String[] args) {
        crossings();
        crossingsOfLongWalks();
        sure();
        sureAtOneTick();
        ahead();
        span();
        look();
        lookAtTheEdge();
        meets();
        one();
        walkers();
        walkersAtTheEdge();
        walkersOfThree();
        Due.end("CrossingsTest");
    }

    /** Two WALKS that cross in 1,0 and 1,1 and 3,3; FACTS 0 and 1 can not be together. */
    private static SnowTracks yard() {
        SnowTracks yard = new SnowTracks(4, 4, 100);
        Due.walk(yard, "@3,3 3n2w2s", 2, 1);
        Due.walk(yard, "@0,1 e n s 2e 2s", 3, 1);
        Due.walk(yard, "@0,3 z", 1, 2);
        yard.fact(0, 3, 0, 0, 10, 20);
        yard.fact(1, 3, 0, 0, 30, 40);
        return yard;
    }

    private static void crossings() {
        SnowTracks yard = yard();
        // WALK 0: 3,3 3,2 3,1 3,0 2,0 1,0 1,1 1,2; WALK 1: 0,1 1,1 1,0 1,1 2,1 3,1 3,2 3,3
        int[] cells = {1, 17, 19, 35, 51};
        Due.is("how many", yard.crossings(0, 1, -1), 5);
        Due.is("how many, other way", yard.crossings(1, 0, -1), 5);
        for (int i = 0; i < cells.length; i++) {
            Due.is("crossing " + i, yard.crossings(0, 1, i), cells[i]);
            Due.is("crossing " + i + ", other way", yard.crossings(1, 0, i), cells[i]);
        }
        Due.is("none at all", yard.crossings(0, 2, -1), 0);
        int[][] none = {{0, 1, 5}, {0, 1, -2}, {0, 1, LOW}, {0, 1, HIGH}, {0, 2, 0}, {0, 0, -1},
            {0, 0, 0}, {0, 3, -1}, {3, 0, -1}, {-1, 0, -1}, {0, -1, -1}, {5, 5, -1}, {LOW, HIGH, -1}};
        for (int[] n : none) {
            Due.is("crossings of none", yard.crossings(n[0], n[1], n[2]), SnowTracks.NONE);
        }
    }

    /** Sixty STEPS to new CELLS, there and back along two others' rows. */
    private static void crossingsOfLongWalks() {
        SnowTracks yard = new SnowTracks(16, 16, 100);
        String text = "@0,0 (9e)6es(9w)6ws(9e)6es(9w)6w";
        Due.walk(yard, text, 1, 0);
        Due.walk(yard, text, 2, 0);
        Due.is("61 CELLS", yard.told(0, 3), 61);
        Due.is("61 CROSSINGS", yard.crossings(0, 1, -1), 61);
        Due.is("the first", yard.crossings(0, 1, 0), 0);
        Due.is("the 59th", yard.crossings(1, 0, 58), 48 + 13);
        Due.is("the last", yard.crossings(1, 0, 60), 48 + 15);
        Due.is("behind it", yard.crossings(1, 0, 61), SnowTracks.NONE);
    }

    private static void sure() {
        SnowTracks yard = yard();
        yard.fact(0, 3, 1, 0, 60, 100);
        // in 3,3: WALK 0 at MOMENT 0, WALK 1 at MOMENT 7 with PACE 3
        Due.is("open", yard.sure(0, 0, 1, 3, 3), SnowTracks.NONE);
        Due.is("surely later", yard.sure(5, 1, 0, 3, 3), 1);
        Due.is("surely not later", yard.sure(5, 0, 1, 3, 3), 0);
        yard.fact(0, 0, 0, 1, 3, 3);
        Due.is("told to be later", yard.sure(8, 0, 1, 3, 3), 1);
        Due.is("told not to be later", yard.sure(8, 1, 0, 3, 3), 0);
        // then START 0 is 22 above START 1 at least, and so 0 is later in 1,0, too
        Due.is("later elsewhere", yard.sure(8, 0, 1, 1, 0), 1);
        int[][] none = {{0, 0, 0, 3, 3}, {0, 0, 2, 3, 3}, {0, 0, 1, 2, 0}, {0, 0, 1, 4, 3},
            {0, 0, 1, 3, 4}, {0, 0, 1, -1, 3}, {0, 0, 1, 3, -1}, {0, 3, 1, 3, 3}, {0, 0, -1, 3, 3},
            {3, 0, 1, 3, 3}, {16, 0, 1, 3, 3}, {-1, 0, 1, 3, 3}, {0, LOW, HIGH, LOW, HIGH}};
        for (int[] n : none) {
            Due.is("sure of none", yard.sure(n[0], n[1], n[2], n[3], n[4]), SnowTracks.NONE);
        }
    }

    private static void sureAtOneTick() {
        SnowTracks yard = yard();
        // in 1,0: WALK 0 at MOMENT 5, tick 10; WALK 1 at MOMENT 2, tick 6
        yard.fact(0, 4, 1, 0, 4, 0);
        Due.is("never later: one tick, or before", yard.sure(4, 0, 1, 1, 0), 0);
        Due.is("open: one tick, or later", yard.sure(4, 1, 0, 1, 0), SnowTracks.NONE);
        yard.fact(0, 4, 0, 1, -4, 0);
        Due.is("always at one tick", yard.sure(12, 0, 1, 1, 0), 0);
        Due.is("always at one tick, other way", yard.sure(12, 1, 0, 1, 0), 0);
        yard.undo();
        yard.undo();
        yard.fact(0, 4, 1, 0, 5, 0);
        Due.is("one tick later", yard.sure(4, 1, 0, 1, 0), 1);
    }

    private static void ahead() {
        SnowTracks yard = yard();
        yard.fact(0, 4, 1, 0, 1, 0);
        yard.fact(0, 4, 2, 0, 0, 0);
        Due.is("open", yard.ahead(0, 0, 1), SnowTracks.NONE);
        Due.is("surely below", yard.ahead(4, 0, 1), 1);
        Due.is("surely not below", yard.ahead(4, 1, 0), 0);
        Due.is("below or alike", yard.ahead(8, 0, 2), SnowTracks.NONE);
        Due.is("above or alike", yard.ahead(8, 2, 0), 0);
        Due.is("itself", yard.ahead(0, 1, 1), 0);
        int[][] none = {{3, 0, 1}, {3, 1, 1}, {16, 0, 1}, {-1, 0, 1}, {0, 3, 0}, {0, 0, 3},
            {0, -1, 0}, {0, 0, -1}, {0, 3, 3}, {0, LOW, HIGH}};
        for (int[] n : none) {
            Due.is("ahead of none", yard.ahead(n[0], n[1], n[2]), SnowTracks.NONE);
        }
    }

    private static void span() {
        SnowTracks yard = yard();
        Due.is("of all", yard.span(0), 300);
        Due.is("with one FACT", yard.span(1), 210);
        yard.fact(0, 4, 1, 0, 50, 0);
        // WALK 0 in 10 .. 20, WALK 1 in 60 .. 100
        Due.is("with two", yard.span(5), 150);
        Due.is("can not be", yard.span(3), SnowTracks.NONE);
        Due.is("no such", yard.span(8), SnowTracks.NONE);
        Due.is("no such", yard.span(-1), SnowTracks.NONE);
        Due.is("without WALKS", new SnowTracks(4, 4, 10).span(0), 0);
    }

    private static void looks(String name, SnowTracks yard, int set, int[] due) {
        for (int what = 0; what < 4; what++) {
            Due.is("look " + name + " " + what, yard.look(set, what), due[what]);
        }
    }

    private static void look() {
        SnowTracks yard = new SnowTracks(4, 4, 100);
        Due.walk(yard, "@0,0 2e", 1, 0);
        Due.walk(yard, "@0,1 n 2e", 9, 0);
        Due.walk(yard, "@3,3 z", 1, 0);
        // 0,0: tick 0 and 9; 1,0: 1 and 18; 2,0: 2 and 27
        looks("the first of several", yard, 0, new int[] {0, 1, 0, 300});
        yard.fact(0, 3, 0, 0, 30, 40);
        yard.fact(0, 3, 1, 0, 0, 40);
        // START 0 less START 1 is to be above 9, 17, 25, or else below 9, 17, 25: START 1 in
        // 0 .. 30, 22, 14, or else in 22, 14, 6 .. 40; START 0 in 30 .. 40 all the same
        looks("by the greater SPAN", yard, 3, new int[] {0, 1, 1, 136});
        yard.fact(0, 3, 1, 0, 12, 20);
        // START 0 in 30 .. 40, START 1 in 12 .. 20: the GAP is 10 .. 28: 0,0 is sure
        int[] narrow = {0, 1, 1, 118};
        looks("of open ones", yard, 7, narrow);
        Due.is("what -1", yard.look(7, -1), SnowTracks.NONE);
        Due.is("what 4", yard.look(7, 4), SnowTracks.NONE);
        Due.is("what far", yard.look(7, HIGH), SnowTracks.NONE);
        Due.is("no such FACTS", yard.look(8, 0), SnowTracks.NONE);
        Due.is("no such FACTS", yard.look(-1, 0), SnowTracks.NONE);
        yard.fact(0, 3, 1, 0, 50, 60);
        Due.is("can not be", yard.look(15, 3), SnowTracks.NONE);
        looks("all are sure", yard, 1 + 8, new int[] {-1, -1, -1, -1});
    }

    private static void lookAtTheEdge() {
        SnowTracks yard = new SnowTracks(2, 2, 10);
        Due.is("look without WALKS", yard.look(0, 0), SnowTracks.NONE);
        Due.walk(yard, "@0,0 z", 1, 0);
        Due.is("look at one WALK", yard.look(0, 0), SnowTracks.NONE);
        Due.walk(yard, "@0,0 z", 1, 0);
        yard.fact(0, 4, 0, 1, 0, 0);
        yard.fact(0, 4, 1, 0, -1, 0);
        // START 0 is that of 1 or one more: that 1 lies ABOVE can not be and counts 0
        looks("an answer that can not be", yard, 3, new int[] {0, 1, 0, 18});
        Due.walk(yard, "@1,0 w", 1, 0);
        yard.fact(0, 3, 2, 0, 5, 6);
        // 19 for 0 and 1; 8 or 13 for 0 and 2; 7 or 14 for 1 and 2
        looks("the least of the greater", yard, 7, new int[] {0, 2, 0, 13});
        Due.is("sure one way, open the other", yard.sure(3, 1, 0, 0, 0), 0);
        // only the lower WALK's way is asked: SURE of 1 and 0 open, of 0 and 1 not
        SnowTracks other = new SnowTracks(2, 2, 10);
        Due.walk(other, "@0,0 z", 1, 0);
        Due.walk(other, "@0,0 z", 1, 0);
        other.fact(0, 4, 1, 0, 0, 0);
        other.fact(0, 3, 1, 0, 0, 0);
        other.fact(0, 3, 0, 0, 0, 1);
        looks("a SPAN of 0, and one that can not be", other, 6, new int[] {0, 1, 0, 0});
        Due.is("open the other way", other.sure(1, 1, 0, 0, 0), SnowTracks.NONE);
        Due.is("a is below b", other.look(1, 0), SnowTracks.NONE);
    }

    private static void meets() {
        SnowTracks yard = new SnowTracks(4, 4, 100);
        Due.walk(yard, "@0,0 2e", 2, 0);
        Due.walk(yard, "@2,0 2z 2w", 3, 0);
        Due.walk(yard, "@3,3 z", 1, 0);
        // 2,0: MOMENT 2 with 0, 1, 2; 1,0: 1 with 3; 0,0: 0 with 4. START 1 less START 0 then:
        // 4, 1, -2; -7; -12
        Due.is("all", yard.meets(0, 0, 1), 5);
        Due.is("all, other way", yard.meets(0, 1, 0), 5);
        Due.is("never in one CELL", yard.meets(0, 0, 2), 0);
        yard.fact(0, 4, 1, 0, -7, 0);
        yard.fact(0, 4, 0, 1, -3, 0);
        yard.fact(0, 4, 1, 0, 60, 0);
        Due.is("-7 and later", yard.meets(1, 0, 1), 4);
        Due.is("-7 .. 3", yard.meets(3, 0, 1), 3);
        Due.is("-7 .. 3, other way", yard.meets(3, 1, 0), 3);
        Due.is("60 and later", yard.meets(4, 0, 1), 0);
        int[][] none = {{0, 0, 0}, {0, 3, 0}, {0, 0, 3}, {0, -1, 0}, {0, 0, -1}, {6, 0, 1},
            {8, 0, 1}, {-1, 0, 1}, {0, LOW, HIGH}};
        for (int[] n : none) {
            Due.is("meets of none", yard.meets(n[0], n[1], n[2]), SnowTracks.NONE);
        }
    }

    private static void one() {
        SnowTracks yard = new SnowTracks(4, 4, 20);
        Due.walk(yard, "@0,0 9z", 1, 5);
        Due.walk(yard, "@0,0 9z", 2, 5);
        Due.walk(yard, "@0,0 z", 1, 4);
        Due.walk(yard, "@0,0 7(3z)", 1, 5);
        Due.is("either before the other", yard.one(0, 0, 1), 3);
        Due.is("other BOOTS", yard.one(0, 0, 2), 0);
        Due.is("one is too long to be first", yard.one(0, 0, 3), 1);
        Due.is("one is too long to be first", yard.one(0, 3, 0), 2);
        yard.fact(0, 3, 0, 0, 2, 18);
        yard.fact(0, 3, 1, 0, 2, 11);
        // END 0 at 11 at least; END 1 at 20 at least
        Due.is("END is not below START", yard.one(3, 0, 1), 0);
        Due.is("END is not below START", yard.one(1, 1, 0), 2);
        yard.fact(0, 3, 0, 0, 1, 1);
        yard.fact(0, 3, 1, 0, 11, 11);
        Due.is("END is below START", yard.one(12, 0, 1), 1);
        Due.is("END is below START", yard.one(12, 1, 0), 2);
        yard.fact(0, 3, 1, 0, 10, 10);
        Due.is("END at START", yard.one(4 + 16, 0, 1), 0);
        Due.is("END at START", yard.one(4 + 16, 1, 0), 0);
        yard.undo();
        int[][] none = {{0, 0, 0}, {0, 4, 0}, {0, 0, 4}, {0, -1, 0}, {0, 0, -1}, {5, 0, 1},
            {5, 0, 2}, {16, 0, 1}, {-1, 0, 1}, {0, LOW, HIGH}};
        for (int[] n : none) {
            Due.is("one of none", yard.one(n[0], n[1], n[2]), SnowTracks.NONE);
        }
    }

    private static void walkers() {
        SnowTracks yard = new SnowTracks(4, 4, 20);
        Due.is("nobody", yard.walkers(0), 0);
        Due.walk(yard, "@0,0 9z", 1, 5);
        Due.is("one", yard.walkers(0), 1);
        Due.walk(yard, "@0,0 9z", 1, 5);
        Due.is("two WALKS of one", yard.walkers(0), 1);
        Due.walk(yard, "@0,0 9z", 1, 5);
        Due.is("three WALKS of one, the DAY just has them", yard.walkers(0), 1);
        Due.walk(yard, "@0,0 9z", 1, 5);
        Due.is("four of two", yard.walkers(0), 2);
        Due.walk(yard, "@0,0 z", 1, 6);
        Due.is("one in another BOOT", yard.walkers(0), 3);
        Due.walk(yard, "@0,0 z", 1, 6);
        Due.is("two in another BOOT", yard.walkers(0), 3);
        yard.fact(0, 3, 0, 0, 0, 0);
        yard.fact(0, 3, 1, 0, 9, 9);
        yard.fact(0, 3, 2, 0, 10, 10);
        yard.fact(0, 3, 4, 0, 7, 7);
        yard.fact(0, 3, 5, 0, 8, 8);
        yard.fact(0, 3, 5, 0, 9, 9);
        Due.is("one END at the next START", yard.walkers(3), 3);
        Due.is("in another BOOT, too", yard.walkers(8 + 16), 4);
        Due.is("below it", yard.walkers(8 + 32), 3);
        Due.is("the SET holds for all at once", yard.walkers(7), 3);
        Due.is("can not be", yard.walkers(16 + 32), SnowTracks.NONE);
        Due.is("no such", yard.walkers(64), SnowTracks.NONE);
        Due.is("no such", yard.walkers(-1), SnowTracks.NONE);
    }

    /** Three WALKS of 9 ticks take STARTS 0, 10, 20 at least. */
    private static void walkersOfThree() {
        for (int day = 18; day <= 21; day++) {
            SnowTracks yard = new SnowTracks(4, 4, day);
            for (int i = 0; i < 3; i++) {
                Due.walk(yard, "@0,0 9z", 1, 5);
            }
            Due.is("three in a DAY of " + day, yard.walkers(0), day < 20 ? 2 : 1);
        }
    }

    private static void walkersAtTheEdge() {
        SnowTracks yard = new SnowTracks(4, 4, 2000);
        for (int i = 0; i < 6; i++) {
            Due.walk(yard, "@0,0 6(9z)6z", 6, 1);
        }
        // each is 360 long: five STARTS 361 apart fit below 2000, a sixth begins at 1805
        Due.is("six of one", yard.walkers(0), 1);
        yard.fact(0, 3, 0, 0, 195, 195);
        yard.fact(0, 3, 1, 0, 196, 555);
        yard.fact(0, 3, 1, 0, 556, 556);
        Due.is("one has to be first, and is too late", yard.walkers(1), 1);
        Due.is("two at once", yard.walkers(1 + 2), 2);
        Due.is("just behind", yard.walkers(1 + 4), 1);
        yard.fact(0, 3, 2, 0, 556, 700);
        Due.is("two behind at once", yard.walkers(1 + 4 + 8), 2);
        Due.walk(yard, "@0,0 z", 6, 1);
        Due.is("more than six WALKS", yard.walkers(0), SnowTracks.NONE);
        for (int set : NO_SETS) {
            Due.is("walkers of " + set, yard().walkers(set), SnowTracks.NONE);
        }
    }
}
