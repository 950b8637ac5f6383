/** Terms 3 and promises 19 to 26: each sentence that names an edge has a test of its own. */
final class EdgesOfCrossingsTest {
    private static final int NONE = SnowTracks.NONE;
    private static final int LOW = Integer.MIN_VALUE;
    private static final int HIGH = Integer.MAX_VALUE;

    private EdgesOfCrossingsTest() {
    }

    public static void main(String[] args) {
        crossingsByCell();
        crossingsWithout();
        crossingsAlike();
        sureLater();
        sureAtOneTick();
        sureNone();
        aheadForSure();
        aheadOfItself();
        aheadNone();
        spanOfAll();
        spanNone();
        lookByGreater();
        lookCanNotBeCountsZero();
        lookFirstOfSeveral();
        lookByAThenBThenCell();
        lookNone();
        meetsAtOneTick();
        meetsStanding();
        meetsNone();
        oneWithOneBoot();
        oneEndBelowStart();
        oneNone();
        walkersOfSix();
        walkersOneBehindTheOther();
        walkersInAnyRow();
        walkersAndTheSet();
        walkersNone();
        Due.end("EdgesOfCrossingsTest");
    }

    private static SnowTracks yardWith(int day, String... texts) {
        SnowTracks yard = new SnowTracks(16, 16, day);
        for (int i = 0; i < texts.length; i++) {
            Due.is("walk of " + texts[i], Due.walk(yard, texts[i], 1, 0), i);
        }
        return yard;
    }

    private static void began(SnowTracks yard, int walk, int from, int to) {
        Due.is("BEGAN", yard.fact(0, 3, walk, 0, from, to) == NONE, false);
    }

    private static void behind(SnowTracks yard, int a, int b, int ticks) {
        Due.is("BEHIND", yard.fact(0, 4, a, b, ticks, 0) == NONE, false);
    }

    // ---- CROSSINGS

    private static void crossingsByCell() {
        Due.says("CROSSINGS of two WALKS: CELLS in which both have PRINTS, by 16 y and x.");
        // both come to all four corners' CELLS in other orders, and more than once
        SnowTracks yard = yardWith(50, "@15,15 b 2(nb)w", "@14,15 ewe n s", "@15,14 z");
        int[] cells = {239, 254, 255};
        Due.is("how many", yard.crossings(0, 1, NONE), 3);
        Due.is("how many, other way", yard.crossings(1, 0, NONE), 3);
        for (int i = 0; i < 3; i++) {
            Due.is("the " + i + "-th", yard.crossings(0, 1, i), cells[i]);
            Due.is("the " + i + "-th, other way", yard.crossings(1, 0, i), cells[i]);
        }
        Due.is("where one begins", yard.crossings(2, 0, NONE), 1);
        Due.is("where one begins", yard.crossings(2, 0, 0), 239);
        SnowTracks corner = yardWith(50, "@0,0 z", "@0,0 e");
        Due.is("in 0,0", corner.crossings(1, 0, 0), 0);
        Due.is("in 0,0 alone", corner.crossings(1, 0, NONE), 1);
    }

    private static void crossingsWithout() {
        Due.says("how many (i NONE), the i-th. NONE: without");
        SnowTracks yard = yardWith(50, "@0,0 e", "@1,0 w", "@5,5 z");
        Due.is("two", yard.crossings(0, 1, NONE), 2);
        for (int i : new int[] {2, 3, -2, LOW, HIGH}) {
            Due.is("the " + i + "-th of two", yard.crossings(0, 1, i), NONE);
        }
        Due.is("how many of none", yard.crossings(0, 2, NONE), 0);
        for (int i : new int[] {0, 1, -2, LOW, HIGH}) {
            Due.is("the " + i + "-th of none", yard.crossings(0, 2, i), NONE);
        }
    }

    private static void crossingsAlike() {
        Due.says("no such ones, alike.");
        SnowTracks yard = yardWith(50, "@0,0 e", "@1,0 w");
        int[][] none = {{0, 0}, {1, 1}, {2, 0}, {0, 2}, {-1, 0}, {0, -1}, {2, 2}, {-1, -1}, {8, 0}, {0, 8},
            {LOW, 0}, {0, HIGH}};
        for (int[] n : none) {
            Due.is("how many of " + n[0] + " " + n[1], yard.crossings(n[0], n[1], NONE), NONE);
            Due.is("the first of " + n[0] + " " + n[1], yard.crossings(n[0], n[1], 0), NONE);
        }
    }

    // ---- SURE, AHEAD

    /** In 1,0: WALK 0 at START and 1, WALK 1 at START and 3. */
    private static SnowTracks crossing() {
        return yardWith(50, "@0,0 e", "@1,1 2zn", "@1,1 z");
    }

    private static void sureLater() {
        Due.says("1 the LATEST PRINT of a is later than that of b for sure, 0 it is not for sure");
        for (int lead = 0; lead <= 4; lead++) {
            SnowTracks yard = crossing();
            behind(yard, 0, 1, lead);
            // WALK 0 is later by lead less 2, or more
            Due.is("a behind by " + lead, yard.sure(1, 0, 1, 1, 0), lead > 2 ? 1 : NONE);
            Due.is("b behind by " + lead, yard.sure(1, 1, 0, 1, 0), lead >= 2 ? 0 : NONE);
        }
        SnowTracks yard = crossing();
        Due.is("open", yard.sure(0, 0, 1, 1, 0), NONE);
        Due.is("open, other way", yard.sure(0, 1, 0, 1, 0), NONE);
    }

    private static void sureAtOneTick() {
        Due.says("(also if both were at one tick)");
        SnowTracks yard = crossing();
        behind(yard, 0, 1, 2);
        behind(yard, 1, 0, -2);
        Due.is("both at one tick", yard.sure(3, 0, 1, 1, 0), 0);
        Due.is("both at one tick, other way", yard.sure(3, 1, 0, 1, 0), 0);
        Due.is("at one tick, or later", yard.sure(1, 0, 1, 1, 0), NONE);
        Due.is("at one tick, or before", yard.sure(2, 0, 1, 1, 0), 0);
    }

    private static void sureNone() {
        Due.says("SURE. NONE: open, it can not be, no CROSSING, no such ones, alike.");
        SnowTracks yard = crossing();
        behind(yard, 0, 1, 9);
        behind(yard, 1, 0, 9);
        Due.is("sure", yard.sure(1, 0, 1, 1, 0), 1);
        int[][] none = {{0, 0, 1, 1, 0}, {3, 0, 1, 1, 0}, {1, 0, 1, 0, 0}, {1, 0, 1, 1, 1}, {1, 0, 2, 1, 0},
            {1, 0, 1, 5, 5}, {1, 0, 1, -1, 0}, {1, 0, 1, 1, -1}, {1, 0, 1, 16, 0}, {1, 0, 1, 1, 16},
            {1, 0, 1, 17, -1}, {1, 0, 0, 1, 0}, {1, 1, 1, 1, 0}, {1, 3, 1, 1, 0}, {1, 0, 3, 1, 0},
            {1, -1, 1, 1, 0}, {1, 0, -1, 1, 0}, {4, 0, 1, 1, 0}, {-1, 0, 1, 1, 0}, {LOW, 0, 1, 1, 0},
            {1, LOW, 1, 1, 0}, {1, 0, HIGH, 1, 0}, {1, 0, 1, LOW, 0}, {1, 0, 1, 1, HIGH}};
        for (int[] n : none) {
            int got = yard.sure(n[0], n[1], n[2], n[3], n[4]);
            Due.is("sure " + java.util.Arrays.toString(n), got, NONE);
        }
    }

    private static void aheadForSure() {
        Due.says("AHEAD: 1 a's START is below b's for sure, 0 for sure not, else open.");
        for (int lead = -1; lead <= 2; lead++) {
            SnowTracks yard = crossing();
            behind(yard, 1, 0, lead);
            Due.is("b behind by " + lead, yard.ahead(1, 0, 1), lead >= 1 ? 1 : NONE);
            Due.is("a behind by " + lead, yard.ahead(1, 1, 0), lead >= 0 ? 0 : NONE);
        }
        SnowTracks yard = crossing();
        Due.is("open", yard.ahead(0, 0, 1), NONE);
        behind(yard, 1, 0, 0);
        behind(yard, 0, 1, 0);
        Due.is("at one tick", yard.ahead(3, 0, 1), 0);
        Due.is("at one tick, other way", yard.ahead(3, 1, 0), 0);
    }

    private static void aheadOfItself() {
        Due.says("0 for sure not, else open");
        SnowTracks yard = crossing();
        for (int i = 0; i < 3; i++) {
            Due.is("of itself", yard.ahead(0, i, i), 0);
        }
    }

    private static void aheadNone() {
        Due.says("AHEAD. NONE: open, it can not be, no such ones.");
        SnowTracks yard = crossing();
        behind(yard, 0, 1, 9);
        behind(yard, 1, 0, 9);
        Due.is("for sure not", yard.ahead(1, 0, 1), 0);
        int[][] none = {{0, 0, 1}, {3, 0, 1}, {3, 0, 0}, {1, 3, 0}, {1, 0, 3}, {1, -1, 0}, {1, 0, -1}, {1, 3, 3},
            {1, -1, -1}, {1, 8, 8}, {4, 0, 1}, {-1, 0, 1}, {LOW, 0, 1}, {1, LOW, 0}, {1, 0, HIGH}};
        for (int[] n : none) {
            Due.is("ahead " + java.util.Arrays.toString(n), yard.ahead(n[0], n[1], n[2]), NONE);
        }
    }

    // ---- SPAN, LOOK

    private static void spanOfAll() {
        Due.says("SPAN: the sum over all WALKS of LAST less FIRST.");
        Due.is("without WALKS", new SnowTracks(2, 2, 10).span(0), 0);
        SnowTracks yard = new SnowTracks(2, 2, 2000);
        for (int i = 0; i < 8; i++) {
            Due.is("of " + i, yard.span(0), 2000 * i);
            Due.walk(yard, "@0,0 z", 1, 0);
        }
        Due.is("of eight", yard.span(0), 16000);
        for (int i = 0; i < 8; i++) {
            began(yard, i, 7 * i, 7 * i + i);
        }
        Due.is("of eight that are told", yard.span(255), 28);
        Due.is("of the first, which is known", yard.span(1), 14000);
        Due.is("of the last", yard.span(128), 14007);
    }

    private static void spanNone() {
        Due.says("SPAN. NONE: it can not be, no such FACTS.");
        SnowTracks yard = crossing();
        behind(yard, 0, 1, 51);
        Due.is("none of it", yard.span(0), 150);
        for (int set : new int[] {1, 2, 3, -1, LOW, HIGH}) {
            Due.is("span " + set, yard.span(set), NONE);
        }
    }

    private static void looks(String name, SnowTracks yard, int set, int a, int b, int cell, int span) {
        int[] due = {a, b, cell, span};
        for (int what = 0; what < 4; what++) {
            Due.is("look " + name + " " + what, yard.look(set, what), due[what]);
        }
    }

    private static void lookByGreater() {
        Due.says("the one by which the greater of both SPANS, with ABOVE for a and b, and for b and a, is least");
        // 0,0: both at START; 1,0: START 0 and 1 against START 1 and 9; 2,0: 2 against 18
        SnowTracks yard = new SnowTracks(4, 4, 20);
        Due.walk(yard, "@0,0 2e", 1, 0);
        Due.walk(yard, "@0,0 2e", 9, 0);
        began(yard, 1, 0, 0);
        // START 0 in 1 .. 20 or 0; in 9 .. 20 or 0 .. 7; in 17 .. 20 or 0 .. 15
        looks("the middle", yard, 1, 0, 1, 1, 11);
        began(yard, 0, 0, 14);
        // START 0 in 1 .. 14 or 0; in 9 .. 14 or 0 .. 7; 2,0 is sure
        looks("the middle again", yard, 3, 0, 1, 1, 7);
        began(yard, 0, 2, 6);
        looks("nothing is open", yard, 5, NONE, NONE, NONE, NONE);
        began(yard, 0, 16, 20);
        // 2,0 alone is open: START 0 is 17 .. 20, or at 16 both are at one tick: neither ABOVE
        looks("one tick is none of both", yard, 9, 0, 1, 2, 3);
    }

    private static void lookCanNotBeCountsZero() {
        Due.says("(an answer that can not be counts 0)");
        SnowTracks yard = new SnowTracks(2, 2, 20);
        Due.walk(yard, "@0,0 z", 1, 0);
        Due.walk(yard, "@0,0 z", 1, 0);
        behind(yard, 0, 1, 0);
        // START 0 at START 1 or later: that 1 is ABOVE can not be; that 0 is: 1 .. 20 and 0 .. 19
        looks("one can not be", yard, 1, 0, 1, 0, 38);
        began(yard, 1, 7, 7);
        began(yard, 0, 0, 8);
        // START 0 is 7 or 8: ABOVE is 8 alone
        looks("the other is 0, too", yard, 7, 0, 1, 0, 0);
        SnowTracks other = new SnowTracks(2, 2, 20);
        Due.walk(other, "@0,0 z", 1, 0);
        Due.walk(other, "@0,0 z", 1, 0);
        behind(other, 1, 0, 0);
        // that 0 is ABOVE can not be: it is not, for sure
        looks("not open", other, 1, NONE, NONE, NONE, NONE);
    }

    private static void lookFirstOfSeveral() {
        Due.says("the first of several");
        SnowTracks yard = yardWith(20, "@1,1 z", "@0,1 z", "@0,1 z", "@1,1 z");
        // each answer leaves 19 for both, 20 for the two others; 0 and 3 come before 1 and 2
        looks("0 and 3 in 1,1", yard, 0, 0, 3, 17, 78);
        began(yard, 0, 5, 5);
        began(yard, 3, 4, 4);
        looks("0 and 3 are sure", yard, 3, 1, 2, 16, 38);
        // START 3 in 0 .. 4 or 6 .. 20, with 40 for 1 and 2; or 38 for both of them, and 20 for 3
        looks("0 and 3 by 54", yard, 1, 0, 3, 17, 54);
        began(yard, 0, 0, 0);
        looks("1 and 2 by 58", yard, 4, 1, 2, 16, 58);
    }

    private static void lookByAThenBThenCell() {
        Due.says("of open CROSSINGS (a below b, by a, then b, then CELL)");
        SnowTracks yard = yardWith(20, "@5,5 z", "@5,5 z", "@5,5 z", "@5,5 z");
        looks("0 and 1", yard, 0, 0, 1, 85, 78);
        began(yard, 0, 10, 10);
        began(yard, 1, 10, 10);
        // START 2 or START 3 in 0 .. 9 or 11 .. 20, and 20 for the other
        looks("0 and 2, not 0 and 3, 1 and 2, 1 and 3", yard, 3, 0, 2, 85, 29);
        began(yard, 2, 10, 10);
        looks("0 and 3, not 1 and 3, 2 and 3", yard, 7, 0, 3, 85, 9);
        began(yard, 3, 10, 10);
        looks("none", yard, 15, NONE, NONE, NONE, NONE);
        began(yard, 0, 0, 0);
        looks("0 and 2, not 0 and 1 by 38", yard, 4 + 8, 0, 2, 85, 29);
        // START 3 at 0 alone counts 0, else it is in 1 .. 20: 19; 1 .. 9 or 11 .. 20 is less
        looks("1 and 3, not 0 and 3, 2 and 3", yard, 2 + 4 + 16, 1, 3, 85, 9);
        SnowTracks cells = yardWith(20, "@4,5 e n", "@4,5 e n");
        looks("the lowest CELL", cells, 0, 0, 1, 16 * 4 + 5, 38);
    }

    private static void lookNone() {
        Due.says("0 a, 1 b, 2 the CELL, 3 the greater SPAN. NONE: none is open, it can not be, no such ones.");
        Due.is("without WALKS", new SnowTracks(2, 2, 10).look(0, 0), NONE);
        SnowTracks yard = yardWith(50, "@0,0 e", "@1,1 2zn", "@5,5 z");
        // START 0 is 3 above START 1 at least, or else one below at most: then all is left
        looks("the one", yard, 0, 0, 1, 1, 150);
        behind(yard, 0, 1, 3);
        behind(yard, 1, 0, 9);
        for (int what = 0; what < 4; what++) {
            Due.is("none is open", yard.look(1, what), NONE);
            Due.is("it can not be", yard.look(3, what), NONE);
            Due.is("no such FACTS", yard.look(4, what), NONE);
            Due.is("no such FACTS", yard.look(LOW, what), NONE);
        }
        for (int what : new int[] {-1, 4, LOW, HIGH}) {
            Due.is("what " + what, yard.look(0, what), NONE);
        }
        SnowTracks apart = yardWith(50, "@0,0 e", "@0,1 e");
        Due.is("no CROSSING", apart.look(0, 0), NONE);
        Due.is("one WALK", yardWith(50, "@0,0 2(eb)").look(0, 3), NONE);
    }

    // ---- MEETS, ONE

    private static void meetsAtOneTick() {
        Due.says("in how many pairs of a MOMENT of a and one of b, both in one CELL then, they might have been at one tick");
        SnowTracks yard = new SnowTracks(4, 4, 10);
        Due.walk(yard, "@0,0 3e", 5, 0);
        Due.walk(yard, "@0,0 3e", 9, 1);
        // in each CELL START 1 less START 0 must be 0, -4, -8, -12: the last is beyond the DAY
        Due.is("all that the DAY has", yard.meets(0, 0, 1), 3);
        Due.is("all that the DAY has, other way", yard.meets(0, 1, 0), 3);
        behind(yard, 0, 1, 4);
        behind(yard, 0, 1, 5);
        behind(yard, 1, 0, -8);
        behind(yard, 1, 0, -7);
        int[][] due = {{1, 2}, {2, 1}, {4, 3}, {8, 2}, {5, 2}, {9, 1}, {10, 0}, {6, 1}};
        for (int[] d : due) {
            Due.is("meets " + d[0], yard.meets(d[0], 0, 1), d[1]);
            Due.is("meets " + d[0] + ", other way", yard.meets(d[0], 1, 0), d[1]);
        }
    }

    private static void meetsStanding() {
        Due.says("MEETS: in how many pairs of a MOMENT of a and one of b");
        SnowTracks yard = yardWith(2000, "@0,0 7(9z)", "@0,0 7(9z)", "@0,0 9(9(ew))");
        Due.is("61 and 61 MOMENTS, PRINTS or not", yard.meets(0, 0, 1), 61 * 61);
        Due.is("61 and 31", yard.meets(0, 0, 2), 61 * 31);
        behind(yard, 1, 0, 60);
        Due.is("60 behind", yard.meets(1, 0, 1), 1);
        behind(yard, 1, 0, 61);
        Due.is("61 behind", yard.meets(2, 0, 1), 0);
    }

    private static void meetsNone() {
        Due.says("MEETS. NONE: it can not be, no such ones, alike.");
        SnowTracks yard = crossing();
        behind(yard, 0, 1, 51);
        Due.is("never in one CELL", yardWith(50, "@0,0 e", "@0,1 e").meets(0, 0, 1), 0);
        int[][] none = {{1, 0, 1}, {0, 0, 0}, {0, 2, 2}, {0, 3, 0}, {0, 0, 3}, {0, -1, 0}, {0, 0, -1}, {2, 0, 1},
            {-1, 0, 1}, {0, LOW, 0}, {0, 0, HIGH}, {0, 8, 0}};
        for (int[] n : none) {
            Due.is("meets " + java.util.Arrays.toString(n), yard.meets(n[0], n[1], n[2]), NONE);
        }
    }

    private static void oneWithOneBoot() {
        Due.says("ONE: whether two WALKS with one BOOT may be one walker's");
        SnowTracks yard = new SnowTracks(4, 4, 10);
        int[] boots = {0, 9, 0, 9};
        for (int boot : boots) {
            Due.walk(yard, "@0,0 z", 1, boot);
        }
        int[][] due = {{0, 1, 0}, {0, 2, 3}, {1, 3, 3}, {2, 3, 0}, {3, 0, 0}, {3, 1, 3}};
        for (int[] d : due) {
            Due.is("one " + d[0] + " " + d[1], yard.one(0, d[0], d[1]), d[2]);
        }
    }

    private static void oneEndBelowStart() {
        Due.says("1, if by the SET the END of a may be below the START of b; 2, if that of b below a's; both added.");
        SnowTracks yard = new SnowTracks(4, 4, 20);
        Due.walk(yard, "@0,0 5z", 2, 0);
        Due.walk(yard, "@0,0 9z2z", 2, 0);
        // WALK 0 takes 10 ticks, WALK 1 takes 22
        Due.is("0 may be before 1, not behind", yard.one(0, 0, 1), 1);
        Due.is("the other way", yard.one(0, 1, 0), 2);
        Due.walk(yard, "@0,0 5z", 2, 0);
        Due.is("either may be first", yard.one(0, 0, 2), 3);
        for (int most = 9; most <= 12; most++) {
            behind(yard, 0, 2, -most);
            Due.is("2 is behind 0 by " + most + " at most", yard.one(1, 0, 2), most > 10 ? 3 : 2);
            Due.is("2 is behind 0 by " + most + " at most", yard.one(1, 2, 0), most > 10 ? 3 : 1);
            yard.undo();
        }
        behind(yard, 2, 0, 10);
        behind(yard, 0, 2, -10);
        Due.is("END at START, neither", yard.one(3, 0, 2), 0);
    }

    private static void oneNone() {
        Due.says("ONE (0: not). NONE: it can not be, no such ones, alike.");
        SnowTracks yard = new SnowTracks(4, 4, 10);
        Due.walk(yard, "@0,0 z", 1, 0);
        Due.walk(yard, "@0,0 z", 1, 1);
        behind(yard, 0, 1, 11);
        Due.is("not", yard.one(0, 0, 1), 0);
        int[][] none = {{1, 0, 1}, {0, 0, 0}, {0, 1, 1}, {0, 2, 0}, {0, 0, 2}, {0, -1, 0}, {0, 0, -1}, {2, 0, 1},
            {-1, 0, 1}, {0, LOW, 0}, {0, 0, HIGH}, {0, 8, 0}};
        for (int[] n : none) {
            Due.is("one " + java.util.Arrays.toString(n), yard.one(n[0], n[1], n[2]), NONE);
        }
    }

    // ---- WALKERS

    private static void walkersOfSix() {
        Due.says("WALKERS (of six WALKS at most)");
        SnowTracks yard = new SnowTracks(4, 4, 10);
        Due.is("without WALKS", yard.walkers(0), 0);
        for (int i = 0; i < 6; i++) {
            Due.walk(yard, "@0,0 z", 1, 0);
            // each takes one tick: STARTS 0 2 4 6 8 10
            Due.is("one of " + (i + 1), yard.walkers(0), 1);
        }
        Due.walk(yard, "@0,0 z", 1, 0);
        Due.is("seven", yard.walkers(0), NONE);
        Due.walk(yard, "@0,0 z", 1, 0);
        Due.is("eight", yard.walkers(0), NONE);
        SnowTracks boots = new SnowTracks(4, 4, 10);
        for (int i = 0; i < 6; i++) {
            Due.walk(boots, "@0,0 z", 1, i + 4);
            Due.is("all in BOOTS of their own", boots.walkers(0), i + 1);
        }
    }

    private static void walkersOneBehindTheOther() {
        Due.says("one WALK behind the other (each END below the next START)");
        SnowTracks yard = new SnowTracks(4, 4, 12);
        for (int i = 0; i < 3; i++) {
            Due.walk(yard, "@0,0 5z", 1, 3);
        }
        // each takes five ticks: 0 6 12
        Due.is("the DAY just has three", yard.walkers(0), 1);
        began(yard, 0, 1, 12);
        began(yard, 1, 1, 12);
        began(yard, 2, 1, 12);
        Due.is("it has not from tick 1", yard.walkers(7), 2);
        Due.is("two of them from tick 1", yard.walkers(3), 1);
        behind(yard, 1, 0, 5);
        behind(yard, 0, 1, -5);
        Due.is("END at START", yard.walkers(8 + 16), 2);
        behind(yard, 1, 0, 6);
        behind(yard, 0, 1, -6);
        Due.is("END below START", yard.walkers(32 + 64), 1);
    }

    /** Which WALK is the first, the last, or alone, is not a matter of numbers. */
    private static void walkersInAnyRow() {
        Due.says("the fewest, if each walks in one BOOT");
        int[][] rows = {{0, 1, 2, 3, 4, 5}, {5, 4, 3, 2, 1, 0}, {3, 0, 5, 1, 4, 2}, {2, 4, 1, 5, 0, 3}};
        for (int[] row : rows) {
            SnowTracks yard = new SnowTracks(4, 4, 10);
            for (int i = 0; i < 6; i++) {
                Due.walk(yard, "@0,0 z", 1, 7);
            }
            for (int i = 0; i < 6; i++) {
                began(yard, row[i], 2 * i, 2 * i);
            }
            Due.is("a row that is known", yard.walkers(63), 1);
            began(yard, row[2], 5, 5);
            Due.is("two at once", yard.walkers(63 - 4 + 64), 2);
            began(yard, row[4], 5, 5);
            Due.is("three at once", yard.walkers(63 - 4 - 16 + 64 + 128), 3);
            for (int i = 0; i < 6; i++) {
                began(yard, row[i], 3, 4);
            }
            Due.is("six at once", yard.walkers(63 << 8), 6);
        }
    }

    private static void walkersAndTheSet() {
        Due.says("and the SET holds, too");
        SnowTracks yard = new SnowTracks(4, 4, 12);
        for (int i = 0; i < 4; i++) {
            Due.walk(yard, "@0,0 5z", 1, i / 2);
        }
        Due.is("two and two", yard.walkers(0), 2);
        behind(yard, 1, 0, 0);
        behind(yard, 3, 2, 0);
        behind(yard, 2, 1, 1);
        behind(yard, 2, 1, 0);
        // 6 from 0 to 1, one to 2, 6 to 3: the DAY has one of both sixes, not both and one
        Due.is("0 before 1", yard.one(7, 0, 1), 1);
        Due.is("2 before 3", yard.one(7, 2, 3), 1);
        Due.is("not both", yard.walkers(7), 3);
        Due.is("both, without the one", yard.walkers(3 + 8), 2);
    }

    private static void walkersNone() {
        Due.says("WALKERS. NONE: it can not be, more than six WALKS, no such FACTS.");
        SnowTracks yard = new SnowTracks(4, 4, 10);
        Due.is("no such, without WALKS", yard.walkers(1), NONE);
        Due.walk(yard, "@0,0 z", 1, 0);
        Due.walk(yard, "@0,0 z", 1, 1);
        behind(yard, 0, 1, 11);
        Due.is("none of it", yard.walkers(0), 2);
        for (int set : new int[] {1, 2, 3, -1, LOW, HIGH}) {
            Due.is("walkers " + set, yard.walkers(set), NONE);
        }
    }
}
