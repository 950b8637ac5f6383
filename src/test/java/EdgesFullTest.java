/**
 * All promises where all is full: eight WALKS of 61 CELLS, twenty FACTS, eight SNOWS, 160 bytes, the
 * widest yard, the longest DAY; and the sentence on 512 calls.
 */
final class EdgesFullTest {
    private static final int NONE = SnowTracks.NONE;
    private static final int ALL = (1 << 20) - 1;

    private EdgesFullTest() {
    }

    public static void main(String[] args) {
        fullYard();
        fullSets();
        fullCrossings();
        fullByHand();
        untilTheLastCall();
        apart();
        Due.end("EdgesFullTest");
    }

    /** Eight WALKS along one way of 61 CELLS, WALK i with PACE i + 1; MOMENT 60 in 3,3. */
    private static SnowTracks full() {
        SnowTracks yard = new SnowTracks(16, 16, 2000);
        for (int i = 0; i < 8; i++) {
            Due.is("walk " + i, Due.walk(yard, "@0,0 (9e)6es(9w)6ws(9e)6es(9w)6w", i + 1, i % 2), i);
        }
        // seven say that each is 100 behind the one before, the others when some began
        for (int i = 1; i < 8; i++) {
            Due.is("BEHIND", yard.fact(i % 6, 4, i, i - 1, 100, 0), i - 1);
        }
        for (int i = 7; i < 20; i++) {
            Due.is("BEGAN", yard.fact(-1, 3, 0, 0, i, 2000 - i), i);
        }
        for (int i = 0; i < 8; i++) {
            Due.is("snow", yard.snow(i == 7 ? 5000 : 300 * i), i + 1);
        }
        Due.is("feed", Due.feed(yard, "@0,0" + "z".repeat(156)), 160);
        return yard;
    }

    private static void fullYard() {
        Due.says("WALKS (8 at most)");
        SnowTracks yard = full();
        int[] counts = {8, 20, 160, 16, 16, 2000, 8};
        for (int what = 0; what < 7; what++) {
            Due.is("count " + what, yard.count(what), counts[what]);
        }
        Due.is("a ninth WALK", yard.walk(1, 0), NONE);
        Due.is("a FACT more", yard.fact(0, 3, 0, 0, 0, 5), NONE);
        Due.is("a SNOW more", yard.snow(5), NONE);
        Due.is("a byte more", yard.feed(0, 0, 0, 0, 'z'), NONE);
        Due.is("a PHOTO more", yard.photo(0, 0, 0, 0), NONE);
        for (int what = 0; what < 7; what++) {
            Due.is("count " + what, yard.count(what), counts[what]);
        }
        Due.is("the TAPE", yard.fault(), NONE);
        Due.is("prints at the beginning", yard.prints(0, 0), 255);
        Due.is("prints at the end", yard.prints(3, 3), 255);
        Due.is("prints behind the end", yard.prints(2, 3), 0);
        Due.is("where at 60", yard.where(7, 60), 51);
        Due.is("latest at the end", yard.latest(7, 3, 3), 60);
        Due.is("PRINTS", yard.told(7, 3), 61);
        Due.noSuch(yard, 8, 0);
    }

    private static void fullSets() {
        Due.says("A SET of FACTS (bits) CAN be, if there are STARTS, for all WALKS");
        SnowTracks yard = full();
        Due.is("can", yard.can(ALL), 1);
        Due.is("bars", yard.bars(ALL), NONE);
        Due.is("core of 20", yard.core(ALL), NONE);
        Due.is("liars", yard.liars(ALL), NONE);
        for (int i = 0; i < 8; i++) {
            Due.is("FIRST of " + i, yard.begins(ALL, i, 0), 19 + 100 * i);
            Due.is("LAST of " + i, yard.begins(ALL, i, 1), 1300 + 100 * i);
            Due.is("least GAP of 0 and " + i, yard.gap(ALL, 0, i, 0), 100 * i);
            Due.is("greatest GAP of 0 and " + i, yard.gap(ALL, 0, i, 1), i == 0 ? 0 : 1281 + 100 * i);
            Due.is("ahead " + i, yard.ahead(ALL, 0, i), i == 0 ? 0 : 1);
        }
        Due.is("span", yard.span(ALL), 8 * 1281);
        Due.is("walkers", yard.walkers(ALL), NONE);
        Due.is("orders", yard.orders(ALL, NONE), NONE);
        Due.is("words", yard.words(-1), ALL - 127);
        yard.undo();
        yard.fact(2, 3, 7, 0, 0, 718);
        // START 7 is 18 and 700 at least
        Due.is("can just be", yard.span(ALL), 0);
        yard.undo();
        yard.fact(2, 3, 7, 0, 0, 717);
        Due.is("can not be", yard.can(ALL), 0);
        Due.is("what bars", yard.bars(ALL), 19);
        Due.is("nine can not be", yard.core(127 + (3 << 18)), 9);
        Due.is("the lowest liar", yard.liars(ALL), 1);
        Due.is("the greater SPAN", yard.look(ALL, 3), NONE);
    }

    private static void fullCrossings() {
        Due.says("CROSSINGS of two WALKS: CELLS in which both have PRINTS");
        SnowTracks yard = full();
        Due.is("of 0 and 7", yard.crossings(0, 7, NONE), 61);
        Due.is("the last of 0 and 7", yard.crossings(0, 7, 60), 63);
        Due.is("behind it", yard.crossings(0, 7, 61), NONE);
        // MOMENTS 60: START 7 and 480 against START 0 and 60
        Due.is("7 over 0 in the last", yard.sure(ALL, 7, 0, 3, 3), 1);
        Due.is("0 over 7 in the last", yard.sure(ALL, 0, 7, 3, 3), 0);
        // all are sure by the SET: each is behind the one before, and slower
        Due.is("nothing to look under", yard.look(ALL, 0), NONE);
        // without FACTS the first CELL is the best, where all are at START
        Due.is("look a", yard.look(0, 0), 0);
        Due.is("look b", yard.look(0, 1), 1);
        Due.is("look CELL", yard.look(0, 2), 0);
        Due.is("look SPAN", yard.look(0, 3), 6 * 2000 + 2 * 1999);
        Due.is("meets without FACTS", yard.meets(0, 0, 7), 61);
        // 7 is slower: it would have to begin before 0, or with it
        Due.is("meets by all", yard.meets(ALL, 0, 7), 0);
        Due.is("one, in other BOOTS", yard.one(ALL, 0, 7), 0);
        // 0 takes 60 ticks, 6 takes 420: 6 is 600 behind
        Due.is("one, 0 before 6", yard.one(ALL, 0, 6), 1);
        Due.is("one, 6 behind 0", yard.one(ALL, 6, 0), 2);
    }

    private static void fullByHand() {
        Due.says("STARTS told by hand (0 at first)");
        SnowTracks yard = full();
        Due.is("judge", yard.judge(ALL), 0);
        Due.is("settle", yard.settle(ALL), true);
        Due.is("judge", yard.judge(ALL), NONE);
        for (int i = 0; i < 8; i++) {
            Due.is("told " + i, yard.told(i, 4), 19 + 100 * i);
        }
        Due.is("top in 0,0", yard.top(0, 0), 7);
        Due.is("top in 3,3", yard.top(3, 3), 7);
        // WALK 7 from 719 with PACE 8: SNOWS at 900, 1200; it is in CELL i of the way at 719 and 8 i
        Due.is("shown", yard.shown(0, 0, 719), 7);
        Due.is("shown before", yard.shown(0, 0, 718), 6);
        Due.is("shown under SNOW", yard.shown(0, 0, 900), NONE);
        Due.is("trail at 899", yard.trail(7, 899), 23);
        Due.is("trail at 900", yard.trail(7, 900), 0);
        Due.is("trail at its END", yard.trail(7, 1199), 38);
        Due.is("trail at 1200", yard.trail(7, 1200), 0);
        Due.is("trail at 5,000", yard.trail(7, 5000), 0);
        Due.is("start at the last tick", yard.start(7, 2000), true);
        Due.is("trail of it all", yard.trail(7, 2480), 61);
        Due.is("trail of it all", yard.trail(7, 4999), 61);
        Due.is("trail of none", yard.trail(6, 4999), 0);
        Due.is("trail under the last SNOW", yard.trail(7, 5000), 0);
    }

    private static void untilTheLastCall() {
        Due.says("An object is used for at most 512 calls after it has been made");
        SnowTracks yard = new SnowTracks(4, 4, 100);
        int calls = 0;
        for (; calls < 16; calls += 2) {
            yard.feed(0x40302C30, 0x20336500, 0, 0, 0);
            Due.is("walk", yard.walk(2, 1), calls / 2);
        }
        for (; calls < 36; calls++) {
            Due.is("fact", yard.fact(0, 4, 1, 0, 5, 0), calls - 16);
        }
        while (calls < 500) {
            Due.is("undo", yard.undo(), 19);
            Due.is("fact", yard.fact(1, 3, 0, 0, calls % 50, 60), 19);
            calls += 2;
        }
        Due.is("call 501", yard.begins(ALL, 0, 0), 48);
        Due.is("call 502", yard.begins(ALL, 1, 0), 53);
        Due.is("call 503", yard.settle(ALL), true);
        Due.is("call 504", yard.told(0, 4), 48);
        Due.is("call 505", yard.top(3, 0), 1);
        Due.is("call 506", yard.shown(0, 0, 48), 0);
        // WALK 0 is in 48 .. 60, WALK 1 in 53 .. 100: that 0 lies over 2 leaves 0 .. 59 for that
        Due.is("call 507", yard.look(ALL, 3), 12 + 47 + 59 + 500);
        Due.is("call 508", yard.walkers(ALL), NONE);
        Due.is("call 509", yard.feed(-1, -1, -1, -1, -1), 20);
        Due.is("call 510", yard.end(0), true);
        Due.is("call 511", yard.photo(0, 0, 0, 0), NONE);
        Due.is("call 512", yard.count(1), 20);
    }

    /** Two objects know nothing of one another. */
    private static void apart() {
        Due.says("Promise 1: A new object");
        SnowTracks one = full();
        SnowTracks other = new SnowTracks(2, 2, 10);
        Due.is("no WALKS", other.count(0), 0);
        Due.is("a WALK", Due.walk(other, "@1,1 n", 1, 0), 0);
        Due.is("its LAST", other.begins(0, 0, 1), 10);
        Due.is("the one's FIRST", one.begins(ALL, 7, 0), 719);
        Due.is("the one's WALK", one.where(0, 0), 0);
    }
}
