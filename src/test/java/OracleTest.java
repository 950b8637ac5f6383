import java.util.List;
import java.util.Random;

/** Promises 5 to 35 on many small yards (always the same ones) against the slow Oracle. */
final class OracleTest {
    private static final Random CHANCE = new Random(20261118);

    private OracleTest() {
    }

    public static void main(String[] args) {
        for (int i = 0; i < 500; i++) {
            yard("yard " + i, CHANCE.nextInt(4), 10 + CHANCE.nextInt(6));
        }
        for (int i = 0; i < 30; i++) {
            yard("yard of 4, " + i, 4, 10 + CHANCE.nextInt(2));
        }
        for (int i = 0; i < 2; i++) {
            yard("yard of 5, " + i, 5, 10);
        }
        yard("yard of 6", 6, 10);
        Due.end("OracleTest");
    }

    private static int upTo(int bound) {
        return CHANCE.nextInt(bound + 1);
    }

    private static String moves(int depth) {
        StringBuilder text = new StringBuilder();
        int many = 1 + upTo(4);
        for (int i = 0; i < many; i++) {
            if (upTo(3) == 0) {
                text.append((char) ('2' + upTo(depth == 0 ? 3 : 7)));
            }
            text.append(" ".repeat(upTo(5) / 5));
            if (depth < 3 && upTo(5) == 0) {
                text.append('(').append(moves(depth + 1)).append(')');
            } else {
                text.append("neswzbbesw".charAt(upTo(9)));
            }
            text.append(" ".repeat(upTo(5) / 5));
        }
        return text.toString();
    }

    private static void yard(String name, int walks, int day) {
        int wide = 2 + upTo(2);
        int deep = 2 + upTo(2);
        SnowTracks yard = new SnowTracks(wide, deep, day);
        Oracle oracle = new Oracle(wide, deep, day);
        for (int i = 0; i < walks; i++) {
            int x = upTo(wide - 1);
            int y = upTo(deep - 1);
            String moves = moves(0);
            int pace = 1 + upTo(2) + 6 * (upTo(7) / 7);
            int boot = upTo(1);
            Due.is(name + " walk", Due.walk(yard, "@" + x + "," + y + " " + moves, pace, boot), i);
            oracle.walk(x, y, moves, pace, boot);
        }
        tellFacts(name, yard, oracle);
        oracle.enumerate();
        comparePlaces(name, yard, oracle);
        compareByHand(name, yard, oracle);
        int all = (1 << oracle.facts.size()) - 1;
        int sets = walks < 5 ? 8 : 3;
        for (int i = 0; i < sets; i++) {
            int set = i == 0 ? all : i == 1 ? 0 : i == 7 ? CHANCE.nextInt() : thinned(all);
            compareSet(name + " set " + set, yard, oracle, set);
        }
    }

    private static int thinned(int all) {
        return all & CHANCE.nextInt() & (upTo(1) == 0 ? -1 : CHANCE.nextInt());
    }

    private static void tellFacts(String name, SnowTracks yard, Oracle oracle) {
        int many = upTo(14);
        for (int i = 0; i < many; i++) {
            int who = upTo(7) - 1;
            int kind = upTo(20) / 4;
            int a = upTo(oracle.walks());
            int b = upTo(oracle.walks());
            int x = upTo(oracle.wide);
            int y = upTo(oracle.deep);
            if (kind == 1 || kind == 2) {
                b = upTo(25) - 1;
            } else if (kind == 3) {
                x = upTo(oracle.day + 1);
                y = x + upTo(5) - 1;
            } else if (kind == 4) {
                x = upTo(12) - 8;
            }
            if (upTo(9) == 0) {
                int due = oracle.photo(who, a, x, y);
                Due.is(name + " photo", yard.photo(who, a, x, y), due);
            } else {
                int due = oracle.fact(who, kind, a, b, x, y);
                Due.is(name + " fact", yard.fact(who, kind, a, b, x, y), due);
            }
        }
        if (upTo(4) == 0 && !oracle.facts.isEmpty()) {
            oracle.facts.remove(oracle.facts.size() - 1);
            Due.is(name + " undo", yard.undo(), oracle.facts.size());
        }
        for (int who = -2; who <= 6; who++) {
            Due.is(name + " words", yard.words(who), oracle.words(who));
        }
        Due.is(name + " facts", yard.count(1), oracle.facts.size());
    }

    private static void comparePlaces(String name, SnowTracks yard, Oracle oracle) {
        for (int i = -1; i <= oracle.walks(); i++) {
            for (int m = -1; m <= 61; m++) {
                Due.is(name + " where", yard.where(i, m), oracle.where(i, m));
            }
            if (oracle.isWalk(i)) {
                Due.is(name + " told 0", yard.told(i, 0), oracle.paths.get(i).length - 1);
                Due.is(name + " told 3", yard.told(i, 3), oracle.printCount(i));
            }
            for (int x = -1; x <= oracle.wide; x++) {
                for (int y = -1; y <= oracle.deep; y++) {
                    int due = oracle.latest(i, oracle.cell(x, y));
                    Due.is(name + " latest", yard.latest(i, x, y), due);
                    Due.is(name + " prints", yard.prints(x, y), oracle.prints(x, y));
                }
            }
            for (int j = 0; j < oracle.walks(); j++) {
                compareCrossings(name, yard, oracle, i, j);
            }
        }
    }

    private static void compareCrossings(String name, SnowTracks yard, Oracle oracle, int a, int b) {
        List<Integer> cells = oracle.crossings(a, b);
        boolean refused = a == b || !oracle.isWalk(a);
        for (int i = -2; i <= cells.size(); i++) {
            boolean there = i >= 0 && i < cells.size();
            int due = refused ? -1 : i == -1 ? cells.size() : there ? cells.get(i) : -1;
            Due.is(name + " crossings " + i, yard.crossings(a, b, i), due);
        }
    }

    private static void compareByHand(String name, SnowTracks yard, Oracle oracle) {
        for (int i = 0; i < oracle.walks(); i++) {
            int tick = upTo(oracle.day);
            Due.is(name + " start", yard.start(i, tick), true);
            oracle.told.set(i, tick);
        }
        int all = (1 << oracle.facts.size()) - 1;
        for (int i = 0; i < 4; i++) {
            int set = i == 0 ? all : all & CHANCE.nextInt();
            Due.is(name + " judge " + set, yard.judge(set), oracle.judge(set));
        }
        int many = upTo(3);
        for (int i = 0; i < many; i++) {
            int tick = upTo(30);
            oracle.snows.add(tick);
            Due.is(name + " snow", yard.snow(tick), oracle.snows.size());
        }
        for (int tick = -1; tick <= 40; tick += 1 + upTo(5)) {
            for (int x = -1; x <= oracle.wide; x++) {
                for (int y = -1; y <= oracle.deep; y++) {
                    Due.is(name + " top", yard.top(x, y), oracle.top(x, y));
                    Due.is(name + " shown", yard.shown(x, y, tick), oracle.shown(x, y, tick));
                }
            }
            for (int i = -1; i <= oracle.walks(); i++) {
                Due.is(name + " trail", yard.trail(i, tick), oracle.trail(i, tick));
            }
        }
    }

    private static void compareSet(String name, SnowTracks yard, Oracle oracle, int set) {
        Due.is(name + " can", yard.can(set), oracle.can(set));
        Due.is(name + " bars", yard.bars(set), oracle.bars(set));
        Due.is(name + " core", yard.core(set), oracle.core(set));
        Due.is(name + " liars", yard.liars(set), oracle.liars(set));
        Due.is(name + " span", yard.span(set), oracle.span(set));
        Due.is(name + " walkers", yard.walkers(set), oracle.walkers(set));
        int[] look = oracle.look(set);
        for (int what = -1; what <= 4; what++) {
            int due = look == null || what < 0 || what > 3 ? -1 : look[what];
            Due.is(name + " look " + what, yard.look(set, what), due);
        }
        for (int a = -1; a <= oracle.walks(); a++) {
            for (int b = -1; b <= oracle.walks(); b++) {
                comparePair(name + " of " + a + " " + b, yard, oracle, set, a, b);
            }
            for (int what = -1; what <= 2; what++) {
                Due.is(name + " begins", yard.begins(set, a, what), oracle.begins(set, a, what));
            }
        }
        List<Integer> rows = oracle.orders(set);
        int many = rows == null ? 0 : rows.size();
        Due.is(name + " orders -2", yard.orders(set, -2), -1);
        Due.is(name + " orders -1", yard.orders(set, -1), rows == null ? -1 : many);
        for (int i = 0; i <= many; i++) {
            int due = rows == null || i == many ? -1 : rows.get(i);
            Due.is(name + " orders " + i, yard.orders(set, i), due);
        }
        Due.is(name + " settle", yard.settle(set), oracle.settle(set));
        for (int i = 0; i < oracle.walks(); i++) {
            Due.is(name + " settled", yard.told(i, 4), oracle.told.get(i));
        }
    }

    private static void comparePair(String name, SnowTracks yard, Oracle oracle, int set, int a, int b) {
        Due.is(name + " ahead", yard.ahead(set, a, b), oracle.ahead(set, a, b));
        Due.is(name + " meets", yard.meets(set, a, b), oracle.meets(set, a, b));
        Due.is(name + " one", yard.one(set, a, b), oracle.one(set, a, b));
        for (int what = -1; what <= 2; what++) {
            Due.is(name + " gap", yard.gap(set, a, b, what), oracle.gap(set, a, b, what));
        }
        for (int x = -1; x <= oracle.wide; x++) {
            for (int y = -1; y <= oracle.deep; y++) {
                Due.is(name + " sure", yard.sure(set, a, b, x, y), oracle.sure(set, a, b, x, y));
            }
        }
    }
}
