import java.util.ArrayList;
import java.util.List;
import java.util.TreeSet;

/**
 * The document's words taken literally and slowly: all STARTS of all WALKS are gone through, and
 * each answer is read off those by which the FACTS of a SET hold. For short DAYS and few WALKS.
 */
final class Oracle {
    static final int NONE = -1;
    static final int HIDDEN = -100000;

    final int wide;
    final int deep;
    final int day;
    final List<int[]> paths = new ArrayList<>();
    final List<Integer> paces = new ArrayList<>();
    final List<Integer> boots = new ArrayList<>();
    final List<Integer> told = new ArrayList<>();
    final List<int[]> facts = new ArrayList<>();
    final List<Integer> snows = new ArrayList<>();
    /** All STARTS, and as bits the FACTS that hold by them. */
    private List<int[]> starts = new ArrayList<>();
    private int[] held = new int[0];
    private int askedSet = NONE;
    private List<int[]> asked = new ArrayList<>();

    Oracle(int wide, int deep, int day) {
        this.wide = wide;
        this.deep = deep;
        this.day = day;
    }

    // ---- WALKS

    void walk(int x, int y, String moves, int pace, int boot) {
        List<Integer> cells = new ArrayList<>();
        List<Integer> from = new ArrayList<>();
        int at = 16 * y + x;
        cells.add(at);
        for (char move : unroll(moves).toCharArray()) {
            if (cells.size() == 61) {
                break;
            }
            int to = at;
            if (move == 'b' && !from.isEmpty()) {
                to = from.remove(from.size() - 1);
            } else if (move != 'b') {
                to = beside(at, move);
                if (to != at) {
                    from.add(at);
                }
            }
            at = to;
            cells.add(at);
        }
        paths.add(cells.stream().mapToInt(Integer::intValue).toArray());
        paces.add(pace);
        boots.add(boot);
        told.add(0);
    }

    private int beside(int cell, char move) {
        int x = cell % 16 + (move == 'e' ? 1 : 0) - (move == 'w' ? 1 : 0);
        int y = cell / 16 + (move == 's' ? 1 : 0) - (move == 'n' ? 1 : 0);
        return x < 0 || y < 0 || x >= wide || y >= deep ? cell : 16 * y + x;
    }

    /** The moves without digits and brackets (as far as they can matter). */
    private static String unroll(String moves) {
        StringBuilder all = new StringBuilder();
        int times = 1;
        for (int i = 0; i < moves.length(); i++) {
            char sign = moves.charAt(i);
            if (sign >= '2' && sign <= '9') {
                times = sign - '0';
            } else if (sign == '(') {
                int close = i;
                for (int open = 1; open > 0; ) {
                    close++;
                    open += moves.charAt(close) == '(' ? 1 : moves.charAt(close) == ')' ? -1 : 0;
                }
                all.append(unroll(moves.substring(i + 1, close)).repeat(times));
                times = 1;
                i = close;
            } else if (sign != ' ') {
                all.append(String.valueOf(sign).repeat(times));
                times = 1;
            }
        }
        return all.toString();
    }

    int walks() {
        return paths.size();
    }

    boolean isWalk(int walk) {
        return walk >= 0 && walk < walks();
    }

    boolean isPrint(int walk, int moment) {
        return moment == 0 || paths.get(walk)[moment] != paths.get(walk)[moment - 1];
    }

    int cell(int x, int y) {
        return x < 0 || y < 0 || x >= wide || y >= deep ? NONE : 16 * y + x;
    }

    int latest(int walk, int cell) {
        int latest = NONE;
        if (isWalk(walk) && cell != NONE) {
            for (int i = 0; i < paths.get(walk).length; i++) {
                if (paths.get(walk)[i] == cell && isPrint(walk, i)) {
                    latest = i;
                }
            }
        }
        return latest;
    }

    int where(int walk, int moment) {
        boolean there = isWalk(walk) && moment >= 0 && moment < paths.get(walk).length;
        return there ? paths.get(walk)[moment] : NONE;
    }

    int prints(int x, int y) {
        if (cell(x, y) == NONE) {
            return NONE;
        }
        int bits = 0;
        for (int i = 0; i < walks(); i++) {
            bits += latest(i, cell(x, y)) == NONE ? 0 : 1 << i;
        }
        return bits;
    }

    int printCount(int walk) {
        int prints = 0;
        for (int i = 0; i < paths.get(walk).length; i++) {
            prints += isPrint(walk, i) ? 1 : 0;
        }
        return prints;
    }

    // ---- FACTS

    int fact(int who, int kind, int a, int b, int x, int y) {
        boolean well = who >= -1 && who <= 5 && isWalk(a) && facts.size() < 20;
        int cell = cell(x, y);
        if (kind == 0) {
            well &= isWalk(b) && a != b && latest(a, cell) != NONE && latest(b, cell) != NONE;
        } else if (kind == 1 || kind == 2) {
            well &= b >= 0 && b <= 5000 && latest(a, cell) != NONE;
        } else if (kind == 3) {
            well &= x >= 0 && x <= day && y >= 0 && y <= day && y >= x;
        } else if (kind == 4) {
            well &= isWalk(b) && a != b && x >= -5000 && x <= 5000;
        } else {
            well = false;
        }
        if (well) {
            facts.add(new int[] {who, kind, a, b, x, y});
        }
        return well ? facts.size() - 1 : NONE;
    }

    int photo(int who, int walk, int x, int y) {
        int cell = cell(x, y);
        if (who < -1 || who > 5 || latest(walk, cell) == NONE) {
            return NONE;
        }
        List<Integer> others = new ArrayList<>();
        for (int i = 0; i < walks(); i++) {
            if (i != walk && latest(i, cell) != NONE) {
                others.add(i);
            }
        }
        if (facts.size() + others.size() > 20) {
            return NONE;
        }
        for (int other : others) {
            fact(who, 0, walk, other, x, y);
        }
        return facts.size();
    }

    int words(int who) {
        int bits = 0;
        for (int i = 0; i < facts.size(); i++) {
            bits += facts.get(i)[0] == who ? 1 << i : 0;
        }
        return who < -1 || who > 5 ? NONE : bits;
    }

    private int printTick(int[] start, int walk, int x, int y) {
        return start[walk] + paces.get(walk) * latest(walk, cell(x, y));
    }

    private boolean above(int[] start, int a, int b, int x, int y) {
        return printTick(start, a, x, y) > printTick(start, b, x, y);
    }

    boolean holds(int[] fact, int[] start) {
        int a = fact[2];
        int b = fact[3];
        int x = fact[4];
        int y = fact[5];
        switch (fact[1]) {
            case 0:
                return above(start, a, b, x, y);
            case 1:
                return printTick(start, a, x, y) > b;
            case 2:
                return printTick(start, a, x, y) <= b;
            case 3:
                return x <= start[a] && start[a] <= y;
            default:
                return start[a] >= start[b] + x;
        }
    }

    int judge(int set) {
        int[] start = told.stream().mapToInt(Integer::intValue).toArray();
        for (int i = 0; i < facts.size(); i++) {
            if ((set >> i & 1) == 1 && !holds(facts.get(i), start)) {
                return isSet(set) ? i : NONE;
            }
        }
        return NONE;
    }

    // ---- SETS

    /** To be called when WALKS and FACTS are told, before any SET is asked. */
    void enumerate() {
        askedSet = NONE;
        starts = new ArrayList<>();
        int[] start = new int[walks()];
        boolean more = true;
        while (more) {
            starts.add(start.clone());
            int i = 0;
            while (i < start.length && start[i] == day) {
                start[i] = 0;
                i++;
            }
            more = i < start.length;
            if (more) {
                start[i]++;
            }
        }
        held = new int[starts.size()];
        for (int i = 0; i < held.length; i++) {
            for (int f = 0; f < facts.size(); f++) {
                held[i] |= holds(facts.get(f), starts.get(i)) ? 1 << f : 0;
            }
        }
    }

    boolean isSet(int set) {
        return set >= 0 && set < 1 << facts.size();
    }

    private List<int[]> by(int set) {
        List<int[]> those = new ArrayList<>();
        for (int i = 0; i < held.length; i++) {
            if ((held[i] & set) == set) {
                those.add(starts.get(i));
            }
        }
        return those;
    }

    private boolean canBe(int set) {
        for (int bits : held) {
            if ((bits & set) == set) {
                return true;
            }
        }
        return false;
    }

    private List<int[]> solutions(int set) {
        if (!isSet(set)) {
            return new ArrayList<>();
        }
        if (askedSet != set) {
            askedSet = set;
            asked = by(set);
        }
        return asked;
    }

    int can(int set) {
        return !isSet(set) ? NONE : canBe(set) ? 1 : 0;
    }

    int bars(int set) {
        for (int i = 0; i < facts.size() && isSet(set); i++) {
            if ((set >> i & 1) == 1 && !canBe(set & (2 << i) - 1)) {
                return i;
            }
        }
        return NONE;
    }

    int core(int set) {
        if (!isSet(set) || Integer.bitCount(set) > 12 || canBe(set)) {
            return NONE;
        }
        int[] kinds = java.util.Arrays.stream(held).map(bits -> bits & set).distinct().toArray();
        int fewest = 99;
        for (int part = set; part > 0; part = part - 1 & set) {
            boolean can = false;
            for (int bits : kinds) {
                can |= (bits & part) == part;
            }
            fewest = can ? fewest : Math.min(fewest, Integer.bitCount(part));
        }
        return fewest;
    }

    int liars(int set) {
        if (!isSet(set) || canBe(set)) {
            return NONE;
        }
        List<String> blamed = new ArrayList<>();
        for (int persons = 0; persons < 64; persons++) {
            int left = set;
            StringBuilder name = new StringBuilder();
            for (int p = 0; p < 6; p++) {
                if ((persons >> p & 1) == 1) {
                    left &= ~words(p);
                    name.append(p);
                }
            }
            if (canBe(left)) {
                blamed.add(name.length() + ":" + name);
            }
        }
        if (blamed.isEmpty()) {
            return NONE;
        }
        String first = java.util.Collections.min(blamed);
        int bits = 0;
        for (char p : first.substring(2).toCharArray()) {
            bits |= 1 << p - '0';
        }
        return bits;
    }

    private int[] range(List<int[]> those, int a, int b) {
        int[] range = {Integer.MAX_VALUE, Integer.MIN_VALUE};
        for (int[] start : those) {
            int value = (b == NONE ? 0 : start[b]) - (a == NONE ? 0 : start[a]);
            range[0] = Math.min(range[0], value);
            range[1] = Math.max(range[1], value);
        }
        return range;
    }

    int begins(int set, int walk, int what) {
        List<int[]> those = solutions(set);
        boolean well = !those.isEmpty() && isWalk(walk) && (what == 0 || what == 1);
        return well ? range(those, NONE, walk)[what] : NONE;
    }

    int gap(int set, int a, int b, int what) {
        List<int[]> those = solutions(set);
        boolean well = !those.isEmpty() && isWalk(a) && isWalk(b) && (what == 0 || what == 1);
        return well ? range(those, a, b)[what] : HIDDEN;
    }

    List<Integer> crossings(int a, int b) {
        List<Integer> cells = new ArrayList<>();
        for (int cell = 0; cell < 256; cell++) {
            if (latest(a, cell) != NONE && latest(b, cell) != NONE) {
                cells.add(cell);
            }
        }
        return cells;
    }

    private static int sureOf(int yes, int all) {
        return all == 0 ? NONE : yes == all ? 1 : yes == 0 ? 0 : NONE;
    }

    int sure(int set, int a, int b, int x, int y) {
        boolean well = a != b && latest(a, cell(x, y)) != NONE && latest(b, cell(x, y)) != NONE;
        List<int[]> those = solutions(set);
        int later = 0;
        for (int[] start : those) {
            later += well && above(start, a, b, x, y) ? 1 : 0;
        }
        return well ? sureOf(later, those.size()) : NONE;
    }

    int ahead(int set, int a, int b) {
        List<int[]> those = solutions(set);
        int below = 0;
        for (int[] start : those) {
            below += isWalk(a) && isWalk(b) && start[a] < start[b] ? 1 : 0;
        }
        return isWalk(a) && isWalk(b) ? sureOf(below, those.size()) : NONE;
    }

    private int spanOf(List<int[]> those) {
        int span = 0;
        for (int i = 0; i < walks() && !those.isEmpty(); i++) {
            int[] range = range(those, NONE, i);
            span += range[1] - range[0];
        }
        return span;
    }

    int span(int set) {
        List<int[]> those = solutions(set);
        return those.isEmpty() ? NONE : spanOf(those);
    }

    /** a, b, CELL, SPAN, or nothing. */
    int[] look(int set) {
        int[] best = null;
        List<int[]> those = solutions(set);
        for (int a = 0; a < walks() && !those.isEmpty(); a++) {
            for (int b = a + 1; b < walks(); b++) {
                for (int cell : crossings(a, b)) {
                    int x = cell % 16;
                    int y = cell / 16;
                    if (sure(set, a, b, x, y) == NONE) {
                        List<int[]> forth = new ArrayList<>(those);
                        List<int[]> back = new ArrayList<>(those);
                        int p = a;
                        int q = b;
                        forth.removeIf(start -> !above(start, p, q, x, y));
                        back.removeIf(start -> !above(start, q, p, x, y));
                        int greater = Math.max(spanOf(forth), spanOf(back));
                        if (best == null || greater < best[3]) {
                            best = new int[] {a, b, cell, greater};
                        }
                    }
                }
            }
        }
        return best;
    }

    int meets(int set, int a, int b) {
        List<int[]> those = solutions(set);
        if (!isWalk(a) || !isWalk(b) || a == b || those.isEmpty()) {
            return NONE;
        }
        TreeSet<Integer> gaps = new TreeSet<>();
        for (int[] start : those) {
            gaps.add(start[b] - start[a]);
        }
        int pairs = 0;
        for (int i = 0; i < paths.get(a).length; i++) {
            for (int j = 0; j < paths.get(b).length; j++) {
                boolean one = paths.get(a)[i] == paths.get(b)[j];
                pairs += one && gaps.contains(paces.get(a) * i - paces.get(b) * j) ? 1 : 0;
            }
        }
        return pairs;
    }

    private int endOf(int[] start, int walk) {
        return start[walk] + paces.get(walk) * (paths.get(walk).length - 1);
    }

    int one(int set, int a, int b) {
        List<int[]> those = solutions(set);
        if (!isWalk(a) || !isWalk(b) || a == b || those.isEmpty()) {
            return NONE;
        }
        int one = 0;
        for (int[] start : those) {
            if (boots.get(a).equals(boots.get(b))) {
                one |= endOf(start, a) < start[b] ? 1 : 0;
                one |= endOf(start, b) < start[a] ? 2 : 0;
            }
        }
        return one;
    }

    /** By given STARTS as many are needed as walk in one BOOT at one tick. */
    private int walkersBy(int[] start) {
        int sum = 0;
        for (int boot = 0; boot <= 9; boot++) {
            int most = 0;
            for (int i = 0; i < walks(); i++) {
                int together = 0;
                for (int j = 0; j < walks() && boots.get(i) == boot; j++) {
                    boolean then = start[j] <= start[i] && endOf(start, j) >= start[i];
                    together += boots.get(j) == boot && then ? 1 : 0;
                }
                most = Math.max(most, together);
            }
            sum += most;
        }
        return sum;
    }

    int walkers(int set) {
        int fewest = NONE;
        if (walks() <= 6) {
            for (int[] start : solutions(set)) {
                int needed = walkersBy(start);
                fewest = fewest == NONE ? needed : Math.min(fewest, needed);
            }
        }
        return fewest;
    }

    /** The ORDERS, or nothing if they are refused. */
    List<Integer> orders(int set) {
        List<int[]> those = solutions(set);
        if (those.isEmpty() || walks() > 6) {
            return null;
        }
        TreeSet<Integer> rows = new TreeSet<>();
        for (int[] start : those) {
            int row = 0;
            int before = -1;
            int placed = 0;
            for (int tick = 0; tick <= day; tick++) {
                for (int i = 0; i < walks(); i++) {
                    if (start[i] == tick && before < tick) {
                        row = 8 * row + i;
                        before = tick;
                        placed++;
                    }
                }
            }
            if (placed == walks()) {
                rows.add(row);
            }
        }
        return new ArrayList<>(rows);
    }

    boolean settle(int set) {
        List<int[]> those = solutions(set);
        for (int i = 0; i < walks() && !those.isEmpty(); i++) {
            told.set(i, range(those, NONE, i)[0]);
        }
        return !those.isEmpty();
    }

    // ---- by hand

    int top(int x, int y) {
        int top = NONE;
        int last = NONE;
        for (int i = 0; i < walks(); i++) {
            int moment = latest(i, cell(x, y));
            int tick = told.get(i) + paces.get(i) * moment;
            if (moment != NONE && tick > last) {
                top = i;
                last = tick;
            }
        }
        return top;
    }

    int shown(int x, int y, int tick) {
        if (cell(x, y) == NONE || tick < 0 || tick > 5000) {
            return NONE;
        }
        for (int t = tick; t >= 0; t--) {
            if (snows.contains(t)) {
                return NONE;
            }
            for (int i = 0; i < walks(); i++) {
                for (int m = 0; m < paths.get(i).length; m++) {
                    boolean then = told.get(i) + paces.get(i) * m == t;
                    if (then && isPrint(i, m) && paths.get(i)[m] == cell(x, y)) {
                        return i;
                    }
                }
            }
        }
        return NONE;
    }

    int trail(int walk, int tick) {
        int cells = 0;
        for (int x = 0; x < wide; x++) {
            for (int y = 0; y < deep; y++) {
                cells += shown(x, y, tick) == walk ? 1 : 0;
            }
        }
        return isWalk(walk) && tick >= 0 && tick <= 5000 ? cells : NONE;
    }
}
