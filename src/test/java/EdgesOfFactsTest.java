/** Terms 2 on FACTS, promises 10 to 12 and 35: each sentence that names an edge has a test of its own. */
final class EdgesOfFactsTest {
    private static final int NONE = SnowTracks.NONE;
    private static final int LOW = Integer.MIN_VALUE;
    private static final int HIGH = Integer.MAX_VALUE;

    private EdgesOfFactsTest() {
    }

    public static void main(String[] args) {
        twentyAtMost();
        groundOrPerson();
        kinds();
        aboveIsLater();
        freshIsLater();
        coveredAtThatTick();
        beganWithin();
        behindOrLater();
        ticksUpTo5000();
        fromAndToOfTheDay();
        notBelowFrom();
        notAsked();
        soMany5000();
        noSuchWalks();
        alike();
        noPrintsThere();
        refusedAt20();
        undoneUntilNone();
        wordsOfNoWho();
        photoByNumbers();
        photoOfOneAlone();
        photoRefused();
        photoBeyond20();
        Due.end("EdgesOfFactsTest");
    }

    /**
     * In 1,0: WALK 0 at MOMENT 1 with PACE 4, WALK 1 at MOMENT 2 with PACE 3, WALK 2 at MOMENT 0.
     * WALK 3 is in 0,1 alone.
     */
    private static SnowTracks yard() {
        SnowTracks yard = new SnowTracks(3, 2, 50);
        Due.walk(yard, "@0,0 e", 4, 0);
        Due.walk(yard, "@1,1 zn", 3, 0);
        Due.walk(yard, "@1,0 z", 2, 0);
        Due.walk(yard, "@0,1 z", 1, 0);
        return yard;
    }

    private static void refused(SnowTracks yard, int[]... facts) {
        int before = yard.count(1);
        for (int[] f : facts) {
            int got = yard.fact(f[0], f[1], f[2], f[3], f[4], f[5]);
            Due.is("fact " + java.util.Arrays.toString(f), got, NONE);
            Due.is("it is none", yard.count(1), before);
        }
    }

    private static void taken(SnowTracks yard, int[]... facts) {
        for (int[] f : facts) {
            int before = yard.count(1);
            int got = yard.fact(f[0], f[1], f[2], f[3], f[4], f[5]);
            Due.is("fact " + java.util.Arrays.toString(f), got, before);
            Due.is("there is one more", yard.count(1), before + 1);
        }
    }

    /** Whether FACT 0, alone there, holds by STARTS told for WALKS 0 and 1. */
    private static void holds(SnowTracks yard, int start0, int start1, boolean due) {
        Due.is("start", yard.start(0, start0) && yard.start(1, start1), true);
        Due.is("judge by " + start0 + " " + start1, yard.judge(1), due ? NONE : 0);
    }

    private static void twentyAtMost() {
        Due.says("FACTS (20 at most)");
        SnowTracks yard = yard();
        for (int i = 0; i < 20; i++) {
            Due.is("FACT " + i, yard.fact(i % 7 - 1, 3, 0, 0, i, 50 - i), i);
        }
        Due.is("twenty", yard.count(1), 20);
        Due.is("the twentieth counts", yard.begins(1 << 19, 0, 0), 19);
        Due.is("a SET of all", yard.begins((1 << 20) - 1, 0, 1), 31);
    }

    private static void groundOrPerson() {
        Due.says("each by WHO: the GROUND (-1) or a PERSON (0 .. 5)");
        SnowTracks yard = yard();
        for (int who = -1; who <= 5; who++) {
            Due.is("by " + who, yard.fact(who, 3, 0, 0, 0, 50), who + 1);
            Due.is("words of " + who, yard.words(who), 1 << who + 1);
        }
        for (int who : new int[] {-2, 6, 7, LOW, HIGH}) {
            for (int kind = 0; kind <= 4; kind++) {
                refused(yard, new int[] {who, kind, 0, 1, 1, 0});
            }
            refused(yard, new int[] {who, 3, 0, 0, 0, 50});
        }
    }

    private static void kinds() {
        Due.says("A FACT: its number.");
        SnowTracks yard = yard();
        taken(yard, new int[] {0, 0, 0, 1, 1, 0}, new int[] {0, 1, 0, 1, 1, 0}, new int[] {0, 2, 0, 1, 1, 0},
            new int[] {0, 3, 0, 1, 1, 1}, new int[] {0, 4, 0, 1, 1, 0});
        for (int kind : new int[] {-1, 5, 6, LOW, HIGH}) {
            refused(yard, new int[] {0, kind, 0, 1, 1, 0});
        }
    }

    private static void aboveIsLater() {
        Due.says("0 ABOVE: the LATEST PRINT of WALK a in a CELL was made later than that of WALK b there.");
        SnowTracks yard = yard();
        yard.fact(0, 0, 0, 1, 1, 0);
        // START 0 and 4 against START 1 and 6
        holds(yard, 12, 10, false);
        holds(yard, 13, 10, true);
        holds(yard, 11, 10, false);
        Due.is("the least GAP", yard.gap(1, 1, 0, 0), 3);
        Due.is("FIRST", yard.begins(1, 0, 0), 3);
        Due.is("LAST", yard.begins(1, 1, 1), 47);
    }

    private static void freshIsLater() {
        Due.says("1 FRESH: the LATEST PRINT of a in a CELL was made later than a tick.");
        SnowTracks yard = yard();
        yard.fact(0, 1, 0, 20, 1, 0);
        holds(yard, 16, 0, false);
        holds(yard, 17, 0, true);
        Due.is("FIRST", yard.begins(1, 0, 0), 17);
        Due.is("LAST", yard.begins(1, 0, 1), 50);
    }

    private static void coveredAtThatTick() {
        Due.says("2 COVERED: it was made at that tick or before.");
        SnowTracks yard = yard();
        yard.fact(0, 2, 0, 20, 1, 0);
        holds(yard, 16, 0, true);
        holds(yard, 17, 0, false);
        Due.is("FIRST", yard.begins(1, 0, 0), 0);
        Due.is("LAST", yard.begins(1, 0, 1), 16);
    }

    private static void beganWithin() {
        Due.says("3 BEGAN: the START of a is within from .. to.");
        SnowTracks yard = yard();
        yard.fact(0, 3, 0, 0, 20, 30);
        holds(yard, 19, 0, false);
        holds(yard, 20, 0, true);
        holds(yard, 30, 0, true);
        holds(yard, 31, 0, false);
        Due.is("FIRST", yard.begins(1, 0, 0), 20);
        Due.is("LAST", yard.begins(1, 0, 1), 30);
    }

    private static void behindOrLater() {
        Due.says("4 BEHIND: the START of a is that of b and so many ticks, or later.");
        SnowTracks yard = yard();
        yard.fact(0, 4, 0, 1, 7, 0);
        holds(yard, 16, 10, false);
        holds(yard, 17, 10, true);
        holds(yard, 18, 10, true);
        yard.undo();
        yard.fact(0, 4, 0, 1, -7, 0);
        holds(yard, 2, 10, false);
        holds(yard, 3, 10, true);
        holds(yard, 40, 10, true);
        yard.undo();
        yard.fact(0, 4, 0, 1, 0, 0);
        holds(yard, 9, 10, false);
        holds(yard, 10, 10, true);
    }

    private static void ticksUpTo5000() {
        Due.says("FRESH, COVERED: a, b the tick (0 .. 5,000), x, y.");
        for (int kind = 1; kind <= 2; kind++) {
            SnowTracks yard = yard();
            taken(yard, new int[] {0, kind, 0, 0, 1, 0}, new int[] {0, kind, 0, 5000, 1, 0},
                new int[] {0, kind, 0, 4999, 1, 0}, new int[] {0, kind, 0, 51, 1, 0});
            refused(yard, new int[] {0, kind, 0, -1, 1, 0}, new int[] {0, kind, 0, 5001, 1, 0},
                new int[] {0, kind, 0, LOW, 1, 0}, new int[] {0, kind, 0, HIGH, 1, 0});
            // WALK 0 is in 1,0 at tick 4 .. 54
            Due.is("tick 0, kind " + kind, yard.can(1), kind == 1 ? 1 : 0);
            Due.is("tick 5000, kind " + kind, yard.can(2), kind == 1 ? 0 : 1);
            Due.is("tick 51, kind " + kind, yard.can(8), 1);
        }
    }

    private static void fromAndToOfTheDay() {
        Due.says("BEGAN: a, x from, y to (0 .. DAY each");
        SnowTracks yard = yard();
        taken(yard, new int[] {0, 3, 0, 0, 0, 50}, new int[] {0, 3, 0, 0, 0, 0}, new int[] {0, 3, 0, 0, 50, 50});
        refused(yard, new int[] {0, 3, 0, 0, -1, 50}, new int[] {0, 3, 0, 0, 0, 51},
            new int[] {0, 3, 0, 0, 51, 51}, new int[] {0, 3, 0, 0, -1, -1}, new int[] {0, 3, 0, 0, LOW, 0},
            new int[] {0, 3, 0, 0, 0, HIGH}, new int[] {0, 3, 0, 0, HIGH, HIGH}, new int[] {0, 3, 0, 0, LOW, HIGH});
        SnowTracks longest = new SnowTracks(2, 2, 2000);
        Due.walk(longest, "@0,0n", 1, 0);
        taken(longest, new int[] {0, 3, 0, 0, 2000, 2000});
        refused(longest, new int[] {0, 3, 0, 0, 2000, 2001});
        Due.is("at the DAY's end", longest.begins(1, 0, 0), 2000);
    }

    private static void notBelowFrom() {
        Due.says("to not below from");
        SnowTracks yard = yard();
        taken(yard, new int[] {0, 3, 0, 0, 20, 20}, new int[] {0, 3, 0, 0, 20, 21});
        refused(yard, new int[] {0, 3, 0, 0, 20, 19}, new int[] {0, 3, 0, 0, 50, 0}, new int[] {0, 3, 0, 0, 1, 0});
        Due.is("FIRST", yard.begins(1, 0, 0), 20);
        Due.is("LAST", yard.begins(1, 0, 1), 20);
    }

    private static void notAsked() {
        Due.says("b is not asked");
        SnowTracks yard = yard();
        for (int b : new int[] {0, 1, 4, 8, -1, LOW, HIGH}) {
            taken(yard, new int[] {0, 3, 0, b, 10, 20});
        }
        Due.says("y is not asked");
        for (int y : new int[] {0, 2, 50, -1, LOW, HIGH}) {
            taken(yard, new int[] {0, 4, 0, 1, 3, y});
        }
        Due.is("all hold the same", yard.gap((1 << 13) - 1, 1, 0, 0), 3);
        // CELLS are not asked of BEHIND: its x is a number of ticks
        taken(yard, new int[] {0, 4, 0, 3, 3, 0});
    }

    private static void soMany5000() {
        Due.says("BEHIND: a, b, x so many (-5,000 .. 5,000");
        SnowTracks yard = yard();
        taken(yard, new int[] {0, 4, 0, 1, 5000, 0}, new int[] {0, 4, 0, 1, -5000, 0},
            new int[] {0, 4, 0, 1, 50, 0}, new int[] {0, 4, 0, 1, 51, 0}, new int[] {0, 4, 0, 1, -50, 0});
        refused(yard, new int[] {0, 4, 0, 1, 5001, 0}, new int[] {0, 4, 0, 1, -5001, 0},
            new int[] {0, 4, 0, 1, LOW, 0}, new int[] {0, 4, 0, 1, HIGH, 0});
        int[] can = {0, 1, 1, 0, 1};
        for (int i = 0; i < can.length; i++) {
            Due.is("can " + i, yard.can(1 << i), can[i]);
        }
        Due.is("-5,000 binds nothing", yard.gap(2, 1, 0, 0), -50);
    }

    private static void noSuchWalks() {
        Due.says("NONE: no such ones");
        SnowTracks yard = yard();
        for (int walk : new int[] {-1, 4, 7, 8, LOW, HIGH}) {
            refused(yard, new int[] {0, 0, walk, 1, 1, 0}, new int[] {0, 0, 0, walk, 1, 0},
                new int[] {0, 1, walk, 9, 1, 0}, new int[] {0, 2, walk, 9, 1, 0},
                new int[] {0, 3, walk, 9, 1, 2}, new int[] {0, 4, walk, 1, 1, 0},
                new int[] {0, 4, 0, walk, 1, 0}, new int[] {0, 0, walk, walk, 1, 0});
        }
        int[][] cells = {{-1, 0}, {1, -1}, {3, 0}, {1, 2}, {17, -1}, {-15, 1}, {LOW, 0}, {HIGH, 0},
            {1, LOW}, {1, HIGH}};
        for (int[] cell : cells) {
            refused(yard, new int[] {0, 0, 0, 1, cell[0], cell[1]}, new int[] {0, 1, 0, 9, cell[0], cell[1]},
                new int[] {0, 2, 0, 9, cell[0], cell[1]});
        }
        SnowTracks empty = new SnowTracks(3, 2, 50);
        for (int kind = 0; kind <= 4; kind++) {
            refused(empty, new int[] {0, kind, 0, 1, 1, 1});
        }
    }

    private static void alike() {
        Due.says("a and b alike");
        SnowTracks yard = yard();
        refused(yard, new int[] {0, 0, 0, 0, 1, 0}, new int[] {0, 0, 1, 1, 1, 0}, new int[] {0, 4, 0, 0, 0, 0},
            new int[] {0, 4, 0, 0, -5, 0}, new int[] {0, 4, 3, 3, 0, 0});
        // b is a tick, or not asked: it may be as a
        taken(yard, new int[] {0, 1, 0, 0, 1, 0}, new int[] {0, 2, 1, 1, 1, 0}, new int[] {0, 3, 2, 2, 0, 9});
    }

    private static void noPrintsThere() {
        Due.says("no PRINTS there");
        SnowTracks yard = yard();
        // in 0,0 WALK 0 alone; in 0,1 WALK 3 alone; in 2,0 and 2,1 none; WALK 1 in 1,1
        refused(yard, new int[] {0, 0, 0, 1, 0, 0}, new int[] {0, 0, 1, 0, 0, 0}, new int[] {0, 0, 0, 1, 2, 0},
            new int[] {0, 0, 0, 3, 0, 1}, new int[] {0, 0, 3, 0, 0, 1}, new int[] {0, 1, 1, 9, 0, 0},
            new int[] {0, 2, 1, 9, 0, 0}, new int[] {0, 1, 0, 9, 2, 1}, new int[] {0, 2, 0, 9, 1, 1});
        taken(yard, new int[] {0, 1, 0, 9, 0, 0}, new int[] {0, 2, 1, 9, 1, 1}, new int[] {0, 0, 2, 0, 1, 0});
    }

    private static void refusedAt20() {
        Due.says("there are 20.");
        SnowTracks yard = yard();
        for (int i = 0; i < 20; i++) {
            yard.fact(0, 3, 0, 0, 0, 50);
        }
        refused(yard, new int[] {0, 0, 0, 1, 1, 0}, new int[] {0, 1, 0, 9, 1, 0}, new int[] {0, 2, 0, 9, 1, 0},
            new int[] {0, 3, 0, 0, 0, 50}, new int[] {0, 4, 0, 1, 1, 0});
        yard.undo();
        taken(yard, new int[] {1, 4, 0, 1, 1, 0});
        refused(yard, new int[] {0, 3, 0, 0, 0, 50});
        Due.is("the twentieth is the new one", yard.words(1), 1 << 19);
    }

    private static void undoneUntilNone() {
        Due.says("The latest FACT is none: how many there are. NONE: there is none.");
        SnowTracks yard = yard();
        Due.is("undo of nothing", yard.undo(), NONE);
        for (int i = 0; i < 20; i++) {
            yard.fact(0, 3, 0, 0, i, 50);
        }
        for (int i = 19; i >= 0; i--) {
            Due.is("undo", yard.undo(), i);
            Due.is("count", yard.count(1), i);
            Due.is("words", yard.words(0), (1 << i) - 1);
            Due.is("what is none", yard.can(1 << i), NONE);
            Due.is("FIRST by what is left", yard.begins((1 << i) - 1, 0, 0), Math.max(0, i - 1));
        }
        Due.is("undo of nothing", yard.undo(), NONE);
        Due.is("count of nothing", yard.count(1), 0);
        Due.is("a FACT anew", yard.fact(0, 3, 0, 0, 9, 9), 0);
    }

    private static void wordsOfNoWho() {
        Due.says("FACTS of a WHO, as bits. NONE: no such WHO.");
        SnowTracks yard = yard();
        for (int i = 0; i < 20; i++) {
            yard.fact(i == 0 || i == 19 ? -1 : 5, 3, 0, 0, 0, 50);
        }
        Due.is("of the GROUND", yard.words(-1), 1 + (1 << 19));
        Due.is("of PERSON 5", yard.words(5), (1 << 19) - 2);
        Due.is("of PERSON 0", yard.words(0), 0);
        Due.is("of PERSON 4", yard.words(4), 0);
        for (int who : new int[] {-2, 6, LOW, HIGH}) {
            Due.is("of " + who, yard.words(who), NONE);
        }
    }

    private static void photoByNumbers() {
        Due.says("facts ABOVE of a WALK over each other one with a PRINT there, by their numbers.");
        SnowTracks yard = yard();
        Due.is("WALK 1 over 0 and 2", yard.photo(2, 1, 1, 0), 2);
        Due.is("whose", yard.words(2), 3);
        // START 1 and 6 is later than START 0 and 4; than START 2
        Due.is("over WALK 0", yard.gap(1, 0, 1, 0), -1);
        Due.is("not over WALK 2", yard.gap(1, 2, 1, 0), -50);
        Due.is("over WALK 2", yard.gap(2, 2, 1, 0), -5);
        Due.is("not over WALK 0", yard.gap(2, 0, 1, 0), -50);
        Due.is("nothing of WALK 3", yard.gap(3, 3, 1, 0), -50);
        Due.is("WALK 2 over 0 and 1", yard.photo(-1, 2, 1, 0), 4);
        Due.is("over WALK 0 first", yard.gap(4, 0, 2, 0), 5);
        Due.is("then over WALK 1", yard.gap(8, 1, 2, 0), 7);
        Due.is("both can not be", yard.can(15), 0);
    }

    private static void photoOfOneAlone() {
        Due.says("PHOTO: how many FACTS there are then.");
        SnowTracks yard = yard();
        Due.is("alone in 0,0", yard.photo(0, 0, 0, 0), 0);
        Due.is("no FACT", yard.count(1), 0);
        yard.fact(0, 3, 0, 0, 0, 50);
        Due.is("alone in 0,1", yard.photo(0, 3, 0, 1), 1);
        Due.is("one FACT", yard.count(1), 1);
        Due.is("three in 1,0", yard.photo(0, 0, 1, 0), 3);
        Due.is("three FACTS", yard.count(1), 3);
    }

    private static void photoRefused() {
        Due.says("NONE: no such ones, no PRINT of that WALK there");
        SnowTracks yard = yard();
        int[][] refused = {{-2, 0, 1, 0}, {6, 0, 1, 0}, {LOW, 0, 1, 0}, {HIGH, 0, 1, 0}, {0, -1, 1, 0},
            {0, 4, 1, 0}, {0, 8, 1, 0}, {0, LOW, 1, 0}, {0, HIGH, 1, 0}, {0, 0, -1, 0}, {0, 0, 3, 0},
            {0, 0, 1, -1}, {0, 0, 1, 2}, {0, 0, 17, -1}, {0, 0, LOW, 0}, {0, 0, 1, HIGH}, {0, 3, 1, 0},
            {0, 1, 0, 0}, {0, 0, 2, 0}, {0, 0, 1, 1}, {6, 3, 0, 1}};
        for (int[] r : refused) {
            Due.is("photo " + java.util.Arrays.toString(r), yard.photo(r[0], r[1], r[2], r[3]), NONE);
            Due.is("no FACT", yard.count(1), 0);
        }
        for (int who = -1; who <= 5; who++) {
            Due.is("photo by " + who, yard.photo(who, 0, 1, 0), 2 * who + 4);
            Due.is("words of " + who, yard.words(who), 3 << 2 * (who + 1));
        }
    }

    private static void photoBeyond20() {
        Due.says("there would be more than 20.");
        SnowTracks yard = new SnowTracks(2, 2, 50);
        for (int i = 0; i < 8; i++) {
            Due.walk(yard, "@0,0 z", 1, 0);
        }
        Due.is("seven", yard.photo(0, 0, 0, 0), 7);
        Due.is("fourteen", yard.photo(1, 7, 0, 0), 14);
        Due.is("twenty-one", yard.photo(2, 3, 0, 0), NONE);
        Due.is("none of them", yard.count(1), 14);
        Due.is("none of them", yard.words(2), 0);
        yard.undo();
        Due.is("twenty", yard.photo(2, 3, 0, 0), 20);
        Due.is("of the third", yard.words(2), 127 << 13);
        // over WALKS 0 1 2 4 5 6 7
        int[] others = {0, 1, 2, 4, 5, 6, 7};
        for (int i = 0; i < 7; i++) {
            Due.is("over WALK " + others[i], yard.gap(1 << 13 + i, others[i], 3, 0), 1);
        }
        Due.is("one more at 20", yard.photo(2, 3, 0, 0), NONE);
    }
}
