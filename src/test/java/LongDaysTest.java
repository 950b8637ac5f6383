import java.util.Random;

/**
 * Promises 13 to 26 and 34 with eight WALKS, long DAYS and twenty FACTS (always the same ones):
 * the bounds against Bellman's and Ford's, other answers against those of simpler calls.
 */
final class LongDaysTest {
    private static final Random CHANCE = new Random(512);

    private LongDaysTest() {
    }

    public static void main(String[] args) {
        for (int i = 0; i < 300; i++) {
            new LongDaysTest().run("yard " + i, 3 + CHANCE.nextInt(6));
        }
        Due.end("LongDaysTest");
    }

    private SnowTracks yard;
    private int walks;
    private int day;
    /** FACTS as rows over, under, least: START over less START under; -1 is tick 0. */
    private final int[][] lower = new int[20][];
    private final int[][] upper = new int[20][];

    private static int upTo(int bound) {
        return CHANCE.nextInt(bound + 1);
    }

    private void run(String name, int many) {
        walks = many;
        day = 100 + upTo(1900);
        yard = new SnowTracks(5, 5, day);
        for (int i = 0; i < walks; i++) {
            StringBuilder text = new StringBuilder("@" + upTo(4) + "," + upTo(4) + " ");
            for (int j = 0; j < 9; j++) {
                text.append(2 + upTo(5)).append("neswb".charAt(upTo(4)));
            }
            Due.is(name + " walk", Due.walk(yard, text.toString(), 1 + upTo(8), upTo(2)), i);
        }
        tellFacts();
        for (int i = 0; i < 6; i++) {
            int set = (1 << yard.count(1)) - 1;
            for (int thin = 0; thin < i % 4; thin++) {
                set &= CHANCE.nextInt();
            }
            compare(name + " set " + set, set);
        }
    }

    private void tellFacts() {
        int[] hidden = new int[walks];
        for (int i = 0; i < walks; i++) {
            hidden[i] = upTo(day);
        }
        int most = 4 + upTo(16);
        for (int tries = 0; tries < 400 && yard.count(1) < most; tries++) {
            int a = upTo(walks - 1);
            int b = upTo(walks - 1);
            int x = upTo(4);
            int y = upTo(4);
            int f = yard.count(1);
            int mistake = upTo(9) == 0 ? upTo(400) : -upTo(200);
            int[] below = {a, a, -99999};
            int[] above = {a, a, -99999};
            int own = yard.told(a, 1) * yard.latest(a, x, y);
            int got = -1;
            switch (upTo(4)) {
                case 0:
                    got = hidden[a] >= hidden[b] || mistake > 0 ? yard.fact(upTo(6) - 1, 0, a, b, x, y) : -1;
                    below = new int[] {a, b, yard.told(b, 1) * yard.latest(b, x, y) - own + 1};
                    break;
                case 1:
                    int after = Math.max(0, hidden[a] + mistake);
                    got = yard.fact(upTo(6) - 1, 1, a, after, x, y);
                    below = new int[] {a, -1, after - own + 1};
                    break;
                case 2:
                    int until = Math.max(0, hidden[a] + own - mistake);
                    got = yard.fact(upTo(6) - 1, 2, a, until, x, y);
                    above = new int[] {-1, a, own - until};
                    break;
                case 3:
                    int from = Math.max(0, Math.min(day, hidden[a] + mistake));
                    int to = Math.min(day, Math.max(from, hidden[a] + upTo(200)));
                    got = yard.fact(upTo(6) - 1, 3, a, 0, from, to);
                    below = new int[] {a, -1, from};
                    above = new int[] {-1, a, -to};
                    break;
                default:
                    got = yard.fact(upTo(6) - 1, 4, a, b, hidden[a] - hidden[b] + mistake, 0);
                    below = new int[] {a, b, hidden[a] - hidden[b] + mistake};
            }
            if (got == f) {
                lower[f] = below;
                upper[f] = above;
            }
        }
    }

    /** The least of all START less START source, or nothing if the SET can not be. */
    private int[] leastFrom(int set, int source) {
        int[] least = new int[walks + 1];
        java.util.Arrays.fill(least, -9999999);
        least[source + 1] = 0;
        boolean changed = true;
        for (int round = 0; changed; round++) {
            if (round > 20) {
                return null;
            }
            changed = false;
            for (int i = 0; i < walks; i++) {
                changed |= raise(least, new int[] {i, -1, 0}) | raise(least, new int[] {-1, i, -day});
            }
            for (int f = 0; f < 20; f++) {
                if ((set >> f & 1) == 1) {
                    changed |= raise(least, lower[f]) | raise(least, upper[f]);
                }
            }
        }
        return least;
    }

    private static boolean raise(int[] least, int[] row) {
        int through = least[row[1] + 1] + row[2];
        if (through <= least[row[0] + 1]) {
            return false;
        }
        least[row[0] + 1] = through;
        return true;
    }

    private void compare(String name, int set) {
        int[] first = leastFrom(set, -1);
        Due.is(name + " can", yard.can(set), first == null ? 0 : 1);
        if (first == null) {
            compareBars(name, set);
            compareCore(name, set);
            compareLiars(name, set);
            return;
        }
        int span = 0;
        for (int a = 0; a < walks; a++) {
            int[] from = leastFrom(set, a);
            Due.is(name + " FIRST", yard.begins(set, a, 0), first[a + 1]);
            Due.is(name + " LAST", yard.begins(set, a, 1), -from[0]);
            span += -from[0] - first[a + 1];
            for (int b = 0; b < walks; b++) {
                Due.is(name + " least GAP", yard.gap(set, a, b, 0), from[b + 1]);
                Due.is(name + " greatest GAP", yard.gap(set, b, a, 1), -from[b + 1]);
            }
        }
        Due.is(name + " span", yard.span(set), span);
        compareLook(name, set);
        compareWalkers(name, set);
        compareOrders(name, set);
        Due.is(name + " settle", yard.settle(set), true);
        Due.is(name + " judge", yard.judge(set), SnowTracks.NONE);
    }

    private void compareBars(String name, int set) {
        int bars = 0;
        while (leastFrom(set & (2 << bars) - 1, -1) != null) {
            bars++;
        }
        Due.is(name + " bars", yard.bars(set), bars);
    }

    private void compareCore(String name, int set) {
        int few = set;
        while (Integer.bitCount(few) > 12) {
            few &= few - 1;
        }
        int fewest = 99;
        for (int part = few; part > 0; part = part - 1 & few) {
            if (Integer.bitCount(part) < fewest && yard.can(part) == 0) {
                fewest = Integer.bitCount(part);
            }
        }
        Due.is(name + " core", yard.core(few), fewest == 99 ? SnowTracks.NONE : fewest);
    }

    private void compareLiars(String name, int set) {
        int best = SnowTracks.NONE;
        for (int persons = 0; persons < 64; persons++) {
            int left = set;
            int rank = 0;
            for (int p = 0; p < 6; p++) {
                if ((persons >> p & 1) == 1) {
                    left &= ~yard.words(p);
                    rank += 1000 - (32 >> p);
                }
            }
            if (yard.can(left) == 1 && (best == SnowTracks.NONE || rank < best >> 6)) {
                best = rank << 6 | persons;
            }
        }
        Due.is(name + " liars", yard.liars(set), best == SnowTracks.NONE ? best : best & 63);
    }

    /** Each look is told as a FACT, and taken back. */
    private void compareLook(String name, int set) {
        if (yard.count(1) > 19) {
            return;
        }
        int[] best = {-1, -1, -1, -1};
        for (int a = 0; a < walks; a++) {
            for (int b = a + 1; b < walks; b++) {
                for (int i = 0; i < yard.crossings(a, b, -1); i++) {
                    int cell = yard.crossings(a, b, i);
                    if (yard.sure(set, a, b, cell % 16, cell / 16) == SnowTracks.NONE) {
                        int forth = spanIfAbove(set, a, b, cell);
                        int back = spanIfAbove(set, b, a, cell);
                        if (best[3] == -1 || Math.max(forth, back) < best[3]) {
                            best = new int[] {a, b, cell, Math.max(forth, back)};
                        }
                    }
                }
            }
        }
        for (int what = 0; what < 4; what++) {
            Due.is(name + " look " + what, yard.look(set, what), best[what]);
        }
    }

    private int spanIfAbove(int set, int a, int b, int cell) {
        int fact = yard.fact(0, 0, a, b, cell % 16, cell / 16);
        int span = yard.span(set | 1 << fact);
        yard.undo();
        return Math.max(0, span);
    }

    private int length(int walk) {
        return yard.told(walk, 0) * yard.told(walk, 1);
    }

    /** Each way in which WALKS may be behind others is told as FACTS, and taken back. */
    private void compareWalkers(String name, int set) {
        if (walks > 4) {
            Due.is(name + " walkers of many", yard.walkers(set) == -1, walks > 6);
        }
        if (walks > 4 || yard.count(1) + walks > 20) {
            return;
        }
        int fewest = walks;
        int ways = 1 << 2 * walks;
        for (int way = 0; way < ways; way++) {
            fewest = Math.min(fewest, chains(set, way));
        }
        Due.is(name + " walkers", yard.walkers(set), fewest);
    }

    /** Two bits for each WALK tell the one behind it (itself: none); how many chains that makes. */
    private int chains(int set, int way) {
        int behind = 0;
        int links = 0;
        int extra = 0;
        boolean well = true;
        for (int a = 0; a < walks && well; a++) {
            int b = way >> 2 * a & 3;
            if (b != a) {
                well = b < walks && (behind >> b & 1) == 0 && yard.told(a, 2) == yard.told(b, 2);
                behind |= 1 << b;
                links++;
                int fact = well ? yard.fact(0, 4, b, a, length(a) + 1, 0) : -1;
                extra |= well ? 1 << fact : 0;
            }
        }
        boolean can = well && yard.can(set | extra) == 1;
        for (int i = 0; i < Integer.bitCount(extra); i++) {
            yard.undo();
        }
        return can ? walks - links : walks;
    }

    private void compareOrders(String name, int set) {
        int many = yard.orders(set, -1);
        Due.is(name + " orders refused", many == -1, walks > 6);
        int before = -1;
        for (int i = 0; i < many; i += 1 + many / 20) {
            int row = yard.orders(set, i);
            Due.is(name + " orders rise", row > before, true);
            before = row;
            for (int j = 1; j < walks; j++) {
                int low = row >> 3 * j & 7;
                int high = row >> 3 * (j - 1) & 7;
                Due.is(name + " order may be", yard.gap(set, low, high, 1) >= 1, true);
            }
        }
    }
}
