/** Promises 10 to 12 and 35: telling FACTS, taking them back, whose they are, PHOTOS. */
final class FactsTest {
    private static final int LOW = Integer.MIN_VALUE;
    private static final int HIGH = Integer.MAX_VALUE;

    private FactsTest() {
    }

    public static void main(String[] args) {
        kinds();
        refusedFacts();
        whatIsNotAsked();
        twentyFacts();
        undoing();
        words();
        photos();
        photosAtTheEdge();
        Due.end("FactsTest");
    }

    /** WALK 0 goes 0,0 to 3,0 at PACE 2; WALK 1 from 2,1 to 2,0 at PACE 3; WALK 2 stays in 0,3. */
    private static SnowTracks yard() {
        SnowTracks yard = new SnowTracks(4, 4, 100);
        Due.walk(yard, "@0,0 3e", 2, 1);
        Due.walk(yard, "@2,1 2n", 3, 1);
        Due.walk(yard, "@0,3 z", 1, 2);
        return yard;
    }

    private static void kinds() {
        SnowTracks yard = yard();
        Due.is("ABOVE", yard.fact(-1, 0, 0, 1, 2, 0), 0);
        Due.is("FRESH", yard.fact(0, 1, 0, 30, 3, 0), 1);
        Due.is("COVERED", yard.fact(1, 2, 0, 30, 3, 0), 2);
        Due.is("BEGAN", yard.fact(2, 3, 0, 0, 40, 50), 3);
        Due.is("BEHIND", yard.fact(5, 4, 0, 1, 7, 0), 4);
        Due.is("count", yard.count(1), 5);
        // ABOVE: START 0 and 4 is later than START 1 and 3
        Due.is("ABOVE's GAP", yard.gap(1, 1, 0, 0), 0);
        // FRESH: START 0 and 6 is later than 30
        Due.is("FRESH's FIRST", yard.begins(2, 0, 0), 25);
        Due.is("FRESH's LAST", yard.begins(2, 0, 1), 100);
        Due.is("COVERED's FIRST", yard.begins(4, 0, 0), 0);
        Due.is("COVERED's LAST", yard.begins(4, 0, 1), 24);
        Due.is("BEGAN's FIRST", yard.begins(8, 0, 0), 40);
        Due.is("BEGAN's LAST", yard.begins(8, 0, 1), 50);
        Due.is("BEHIND's GAP", yard.gap(16, 1, 0, 0), 7);
        Due.is("FRESH and COVERED can not be", yard.can(6), 0);
    }

    private static void refusedFacts() {
        SnowTracks yard = yard();
        int[][] refused = {
            // WHO, kind, a
            {-2, 0, 0, 1, 2, 0}, {6, 0, 0, 1, 2, 0}, {LOW, 3, 0, 0, 0, 1}, {HIGH, 3, 0, 0, 0, 1},
            {0, -1, 0, 1, 2, 0}, {0, 5, 0, 1, 2, 0}, {0, HIGH, 0, 1, 2, 0}, {0, LOW, 0, 1, 2, 0},
            {0, 0, -1, 1, 2, 0}, {0, 0, 3, 1, 2, 0}, {0, 1, 3, 1, 2, 0}, {0, 2, -1, 1, 2, 0},
            {0, 3, 3, 0, 0, 1}, {0, 3, -1, 0, 0, 1}, {0, 4, 3, 0, 0, 0}, {0, 4, LOW, 0, 0, 0},
            // ABOVE: b, a and b alike, CELLS, PRINTS
            {0, 0, 0, -1, 2, 0}, {0, 0, 0, 3, 2, 0}, {0, 0, 0, 0, 2, 0}, {0, 0, 0, 1, 4, 0},
            {0, 0, 0, 1, 2, 4}, {0, 0, 0, 1, -1, 0}, {0, 0, 0, 1, 2, -1}, {0, 0, 0, 1, 0, 0},
            {0, 0, 0, 1, 2, 1}, {0, 0, 0, 1, 3, 3}, {0, 0, 0, HIGH, 2, 0}, {0, 0, 0, 1, HIGH, LOW},
            // FRESH, COVERED: tick, CELLS, PRINTS
            {0, 1, 0, -1, 2, 0}, {0, 1, 0, 5001, 2, 0}, {0, 2, 0, -1, 2, 0}, {0, 2, 0, 5001, 2, 0},
            {0, 1, 0, 5, 2, 1}, {0, 2, 0, 5, 2, 1}, {0, 1, 0, 5, 4, 0}, {0, 2, 0, 5, 2, -1},
            {0, 1, 0, LOW, 2, 0}, {0, 2, 0, HIGH, 2, 0},
            // BEGAN: from, to
            {0, 3, 0, 0, -1, 5}, {0, 3, 0, 0, 5, 101}, {0, 3, 0, 0, 6, 5}, {0, 3, 0, 0, 101, 101},
            {0, 3, 0, 0, LOW, 5}, {0, 3, 0, 0, 5, HIGH},
            // BEHIND: b, a and b alike, so many
            {0, 4, 0, -1, 5, 0}, {0, 4, 0, 3, 5, 0}, {0, 4, 0, 0, 5, 0}, {0, 4, 0, 1, 5001, 0},
            {0, 4, 0, 1, -5001, 0}, {0, 4, 0, 1, LOW, 0}, {0, 4, 0, 1, HIGH, 0}};
        for (int[] f : refused) {
            int got = yard.fact(f[0], f[1], f[2], f[3], f[4], f[5]);
            Due.is("fact " + java.util.Arrays.toString(f), got, SnowTracks.NONE);
        }
        Due.is("refused FACTS are none", yard.count(1), 0);
    }

    private static void whatIsNotAsked() {
        SnowTracks yard = yard();
        int[][] taken = {
            {0, 1, 0, 0, 2, 0}, {0, 1, 0, 5000, 2, 0}, {0, 2, 0, 0, 0, 0}, {0, 2, 0, 5000, 2, 0},
            {0, 1, 1, 1, 2, 0}, {0, 2, 1, 1, 2, 0}, {0, 3, 0, 0, 0, 0}, {0, 3, 0, 99, 100, 100},
            {0, 3, 0, LOW, 0, 100}, {0, 3, 1, 1, 0, 100}, {0, 4, 0, 1, 5000, HIGH},
            {0, 4, 0, 1, -5000, LOW}, {0, 4, 0, 2, 0, -1}};
        for (int i = 0; i < taken.length; i++) {
            int[] f = taken[i];
            int got = yard.fact(f[0], f[1], f[2], f[3], f[4], f[5]);
            Due.is("fact " + java.util.Arrays.toString(f), got, i);
        }
    }

    private static void twentyFacts() {
        SnowTracks yard = yard();
        for (int i = 0; i < 20; i++) {
            Due.is("FACT " + i, yard.fact(i % 7 - 1, 3, 0, 0, i, 50), i);
        }
        Due.is("FACT 20", yard.fact(0, 3, 0, 0, 1, 50), SnowTracks.NONE);
        Due.is("count of 20", yard.count(1), 20);
        Due.is("FIRST by 20", yard.begins((1 << 20) - 1, 0, 0), 19);
        Due.is("a SET of more", yard.can(1 << 20), SnowTracks.NONE);
        Due.is("photo with nobody else at 20", yard.photo(0, 2, 0, 3), 20);
        Due.is("photo at 20", yard.photo(0, 0, 2, 0), SnowTracks.NONE);
        yard.undo();
        Due.is("photo at 19", yard.photo(0, 0, 2, 0), 20);
    }

    private static void undoing() {
        SnowTracks yard = yard();
        Due.is("undo of nothing", yard.undo(), SnowTracks.NONE);
        yard.fact(0, 3, 0, 0, 10, 20);
        yard.fact(1, 3, 0, 0, 30, 40);
        Due.is("undo", yard.undo(), 1);
        Due.is("count after undo", yard.count(1), 1);
        Due.is("words after undo", yard.words(1), 0);
        Due.is("a SET with what is none", yard.can(2), SnowTracks.NONE);
        Due.is("the first is there", yard.begins(1, 0, 0), 10);
        Due.is("fact after undo", yard.fact(2, 3, 0, 0, 15, 17), 1);
        Due.is("words anew", yard.words(2), 2);
        Due.is("words of before", yard.words(1), 0);
        Due.is("FIRST anew", yard.begins(3, 0, 0), 15);
        Due.is("undo", yard.undo(), 1);
        Due.is("undo", yard.undo(), 0);
        Due.is("undo", yard.undo(), SnowTracks.NONE);
        Due.is("count", yard.count(1), 0);
    }

    private static void words() {
        SnowTracks yard = yard();
        for (int who = -1; who <= 5; who++) {
            Due.is("words without FACTS", yard.words(who), 0);
        }
        for (int i = 0; i < 14; i++) {
            yard.fact(i % 7 - 1, 3, 0, 0, 0, 50);
        }
        for (int who = -1; who <= 5; who++) {
            Due.is("words of " + who, yard.words(who), 129 << who + 1);
        }
        for (int who : new int[] {-2, 6, LOW, HIGH}) {
            Due.is("words of " + who, yard.words(who), SnowTracks.NONE);
        }
    }

    private static void photos() {
        SnowTracks yard = yard();
        Due.walk(yard, "@2,0 z", 1, 0);
        Due.walk(yard, "@3,0 w", 1, 0);
        Due.is("photo", yard.photo(3, 1, 2, 0), 3);
        Due.is("words of the photo", yard.words(3), 7);
        // over WALK 0 (MOMENT 2 at PACE 2), 3 (MOMENT 0), 4 (MOMENT 1); own MOMENT 1 at PACE 3
        Due.is("first over WALK 0", yard.gap(1, 0, 1, 0), 2);
        Due.is("then over WALK 3", yard.gap(2, 3, 1, 0), -2);
        Due.is("then over WALK 4", yard.gap(4, 4, 1, 0), -1);
        Due.is("nothing of WALK 2", yard.gap(7, 2, 1, 0), -98);
        Due.is("photo of one alone", yard.photo(-1, 1, 2, 1), 3);
        Due.is("photo by the GROUND", yard.photo(-1, 0, 3, 0), 4);
        Due.is("words of the GROUND", yard.words(-1), 8);
    }

    private static void photosAtTheEdge() {
        SnowTracks yard = yard();
        int[][] refused = {{-2, 0, 2, 0}, {6, 0, 2, 0}, {0, -1, 2, 0}, {0, 3, 2, 0}, {0, 0, 4, 0},
            {0, 0, 2, 4}, {0, 0, -1, 0}, {0, 0, 0, -1}, {0, 0, 2, 1}, {0, 2, 2, 0},
            {HIGH, 0, 2, 0}, {0, LOW, 2, 0}, {0, 0, HIGH, LOW}};
        for (int[] p : refused) {
            int got = yard.photo(p[0], p[1], p[2], p[3]);
            Due.is("photo " + java.util.Arrays.toString(p), got, SnowTracks.NONE);
        }
        Due.is("refused PHOTOS tell nothing", yard.count(1), 0);
        Due.walk(yard, "@2,0 z", 1, 0);
        for (int i = 0; i < 19; i++) {
            yard.fact(0, 3, 0, 0, 0, 50);
        }
        Due.is("photo of two at 19", yard.photo(0, 0, 2, 0), SnowTracks.NONE);
        Due.is("none of a refused PHOTO is told", yard.count(1), 19);
        yard.undo();
        Due.is("photo of two at 18", yard.photo(0, 0, 2, 0), 20);
    }
}
