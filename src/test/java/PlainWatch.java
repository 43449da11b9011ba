import java.util.ArrayList;
import java.util.Arrays;
import java.util.List;
import java.util.TreeSet;

/**
 * The document once more, in the slowest and plainest way: every word is worked out anew from its
 * definition, and an act is undone by a copy of everything. AgreementTest holds SmokeWatch to it.
 */
final class PlainWatch {
    static final int NONE = -1;

    /** A place's content; `squares` is null of a REMARK. */
    private static final class Item {
        int kind;
        int number;
        int tower = NONE;
        int reach = NONE;
        TreeSet<Integer> squares;
    }

    private static final class Fire {
        boolean out;
        int again;

        Fire copy() {
            Fire f = new Fire();
            f.out = out;
            f.again = again;
            return f;
        }
    }

    /** What undo() puts back: the log, the fires, the crews. */
    private static final class State {
        Item[] log = new Item[60];
        int[] fireOf = filled(60);
        List<Fire> fires = new ArrayList<>();
        List<Integer> crews = new ArrayList<>();

        State copy() {
            State s = new State();
            s.log = log.clone();
            s.fireOf = fireOf.clone();
            for (Fire f : fires) {
                s.fires.add(f.copy());
            }
            s.crews.addAll(crews);
            return s;
        }
    }

    private final Integer[][] height = new Integer[16][16];
    private final int[][] stepMinutes = new int[16][16];
    private final List<int[]> towers = new ArrayList<>();
    private State now = new State();
    private final List<State> before = new ArrayList<>();
    private int[] sent = filled(20);
    private int[] said = filled(60);

    private static int[] filled(int n) {
        int[] a = new int[n];
        Arrays.fill(a, NONE);
        return a;
    }

    private boolean there(int r, int c) {
        return r >= 0 && r < 16 && c >= 0 && c < 16 && height[r][c] != null;
    }

    private void act() {
        before.add(now.copy());
        if (before.size() > 50) {
            before.remove(0);
        }
    }

    boolean row(int r, int n, int h, int m) {
        if (r < 0 || r > 15 || n < 0 || n > 16) {
            return false;
        }
        if (n > 0 && (h < -1000 || h > 3000 || m < 1 || m > 60)) {
            return false;
        }
        for (int c = 0; c < 16; c++) {
            height[r][c] = c < n ? (Integer) h : null;
            stepMinutes[r][c] = m;
        }
        towers.clear();
        now = new State();
        before.clear();
        sent = filled(20);
        said = filled(60);
        return true;
    }

    boolean square(int r, int c, int h, int m) {
        if (!there(r, c) || h < -1000 || h > 3000 || m < 1 || m > 60) {
            return false;
        }
        if (count(1) + count(2) + count(3) > 0) {
            return false;
        }
        height[r][c] = h;
        stepMinutes[r][c] = m;
        return true;
    }

    int tower(int r, int c, int h) {
        if (!there(r, c) || h < 0 || h > 100 || towers.size() == 8 || count(1) > 0) {
            return NONE;
        }
        towers.add(new int[] {r, c, h});
        return towers.size() - 1;
    }

    /** A fraction with a divisor above 0. */
    private record Part(long n, long d) {
        static Part of(long n, long d) {
            return d < 0 ? new Part(-n, -d) : new Part(n, d);
        }

        int compare(Part o) {
            return Long.compare(n * o.d, o.n * d);
        }

        Part max(Part o) {
            return compare(o) >= 0 ? this : o;
        }

        Part min(Part o) {
            return compare(o) <= 0 ? this : o;
        }
    }

    /** From where to where (0 to 1 on a way of `by`) a line from middle to middle is within a row (or column) off by `off`. */
    private static Part[] within(int off, int by) {
        if (by == 0) {
            return off == 0 ? new Part[] {Part.of(0, 1), Part.of(1, 1)} : null;
        }
        Part a = Part.of(2L * off - 1, 2L * by);
        Part b = Part.of(2L * off + 1, 2L * by);
        return new Part[] {a.min(b).max(Part.of(0, 1)), a.max(b).min(Part.of(1, 1))};
    }

    /** The first square that is missing or hides between an eye and a square. */
    private int firstHiding(int r0, int c0, int above, int r1, int c1) {
        long eye = height[r0][c0] + above;
        long end = height[r1][c1];
        Part first = null;
        int found = NONE;
        for (int r = 0; r < 16; r++) {
            for (int c = 0; c < 16; c++) {
                Part[] a = within(r - r0, r1 - r0);
                Part[] b = within(c - c0, c1 - c0);
                if (a == null || b == null || r == r0 && c == c0 || r == r1 && c == c1) {
                    continue;
                }
                Part in = a[0].max(b[0]);
                Part out = a[1].min(b[1]);
                if (in.compare(out) >= 0) {
                    continue;
                }
                Part low = Part.of(eye * in.d + (end - eye) * in.n, in.d)
                        .min(Part.of(eye * out.d + (end - eye) * out.n, out.d));
                boolean stops = height[r][c] == null || Part.of(height[r][c], 1).compare(low) >= 0;
                if (stops && (first == null || in.compare(first) < 0)) {
                    first = in;
                    found = 16 * r + c;
                }
            }
        }
        return found;
    }

    private boolean sees(int r0, int c0, int above, int r, int c) {
        return firstHiding(r0, c0, above, r, c) == NONE;
    }

    int see(int t, int r, int c) {
        if (t < 0 || t >= towers.size() || !there(r, c)) {
            return NONE;
        }
        int[] w = towers.get(t);
        return sees(w[0], w[1], w[2], r, c) ? 1 : 0;
    }

    int hidden(int t, int r, int c) {
        if (see(t, r, c) != 0) {
            return NONE;
        }
        int[] w = towers.get(t);
        return firstHiding(w[0], w[1], w[2], r, c);
    }

    private TreeSet<Integer> cone(int[] eye, int down, int right, int side, int reach, boolean asksSeen) {
        TreeSet<Integer> set = new TreeSet<>();
        for (int q = 0; q < 256; q++) {
            int r = q / 16;
            int c = q % 16;
            int vd = r - eye[0];
            int vr = c - eye[1];
            int along = vd * down + vr * right;
            if (there(r, c) && along > 0 && 100 * Math.abs(vd * right - vr * down) <= side * along
                    && (reach == NONE || vd * vd + vr * vr <= reach * reach)
                    && (!asksSeen || sees(eye[0], eye[1], eye[2], r, c))) {
                set.add(q);
            }
        }
        return set;
    }

    private int make(Item item) {
        for (int i = 0; i < 60; i++) {
            if (now.log[i] == null) {
                act();
                now.log[i] = item;
                return i;
            }
        }
        return NONE;
    }

    private static boolean told(int minute, int down, int right, int side) {
        return minute >= 0 && minute <= 9999 && Math.abs((long) down) <= 50 && Math.abs((long) right) <= 50
                && (down != 0 || right != 0) && side >= 0 && side <= 400;
    }

    int sight(int kind, int t, int minute, int down, int right, int side, int reach, int haze) {
        if (kind < 0 || kind > 3 || t < 0 || t >= towers.size() || !told(minute, down, right, side)) {
            return NONE;
        }
        Item item = new Item();
        item.kind = kind;
        item.number = minute;
        item.tower = t;
        if (kind == 1 || kind == 2) {
            if (reach < 1 || reach > 40) {
                return NONE;
            }
            item.reach = reach;
        }
        if (kind == 2) {
            float haziness = Float.intBitsToFloat(haze);
            if (!(haziness >= 0f && haziness <= 1f)) {
                return NONE;
            }
            int h = (int) (haziness * 100f);
            item.reach = reach - reach * h / 100;
        }
        item.squares = cone(towers.get(t), down, right, side, item.reach, kind != 3);
        return make(item);
    }

    int report(int r, int c, int minute, int down, int right, int side) {
        if (!there(r, c) || !told(minute, down, right, side)) {
            return NONE;
        }
        Item item = new Item();
        item.kind = 4;
        item.number = minute;
        item.squares = cone(new int[] {r, c, 2}, down, right, side, NONE, false);
        return make(item);
    }

    int remark(int v) {
        Item item = new Item();
        item.kind = 5;
        item.number = v;
        return make(item);
    }

    boolean clear(int i) {
        if (i < 0 || i > 59 || now.log[i] == null || now.fireOf[i] != NONE) {
            return false;
        }
        act();
        now.log[i] = null;
        return true;
    }

    private boolean isSighting(int i) {
        return i >= 0 && i < 60 && now.log[i] != null && now.log[i].squares != null;
    }

    private boolean alike(int i, int j) {
        Item a = now.log[i];
        Item b = now.log[j];
        return a.tower != NONE && a.tower == b.tower && a.number == b.number;
    }

    private TreeSet<Integer> patchOf(int f) {
        TreeSet<Integer> all = null;
        for (int i = 0; i < 60; i++) {
            if (now.fireOf[i] == f) {
                if (all == null) {
                    all = new TreeSet<>(now.log[i].squares);
                } else {
                    all.retainAll(now.log[i].squares);
                }
            }
        }
        return all == null ? new TreeSet<>() : all;
    }

    private int members(int f) {
        int n = 0;
        for (int g : now.fireOf) {
            n += g == f ? 1 : 0;
        }
        return n;
    }

    private int stateOf(int f) {
        return now.fires.get(f).out ? 1 : members(f) > 0 ? 0 : 2;
    }

    private boolean isFire(int f) {
        return f >= 0 && f < now.fires.size();
    }

    private boolean fits(int i, int f) {
        if (!isSighting(i) || !isFire(f) || stateOf(f) != 0 || now.fireOf[i] != NONE) {
            return false;
        }
        for (int j = 0; j < 60; j++) {
            if (now.fireOf[j] == f && alike(i, j)) {
                return false;
            }
        }
        TreeSet<Integer> both = patchOf(f);
        both.retainAll(now.log[i].squares);
        return !both.isEmpty();
    }

    private int howManyFit(int i) {
        int n = 0;
        for (int f = 0; f < now.fires.size(); f++) {
            n += fits(i, f) ? 1 : 0;
        }
        return n;
    }

    int log(int i, int what) {
        if (i < 0 || i > 59) {
            return NONE;
        }
        Item item = now.log[i];
        if (item == null) {
            return what == 0 ? 6 : NONE;
        }
        if (item.kind == 5) {
            return what == 0 ? 5 : what == 1 ? item.number : NONE;
        }
        int[] told = {item.kind, item.number, item.tower, item.squares.size(), now.fireOf[i], item.reach, howManyFit(i)};
        return what >= 0 && what < 7 ? told[what] : NONE;
    }

    private static int rank(TreeSet<Integer> set, int k) {
        return k >= 0 && k < set.size() ? new ArrayList<>(set).get(k) : NONE;
    }

    int squares(int i, int k) {
        return isSighting(i) ? rank(now.log[i].squares, k) : NONE;
    }

    boolean join(int i, int f) {
        if (!fits(i, f)) {
            return false;
        }
        act();
        now.fireOf[i] = f;
        return true;
    }

    int begin(int i) {
        if (!isSighting(i) || now.fireOf[i] != NONE || now.log[i].squares.isEmpty() || now.fires.size() == 20) {
            return NONE;
        }
        act();
        Fire fresh = new Fire();
        fresh.again = NONE;
        for (int f = 0; f < now.fires.size(); f++) {
            TreeSet<Integer> both = patchOf(f);
            both.retainAll(now.log[i].squares);
            if (now.fires.get(f).out && !both.isEmpty()) {
                fresh.again = f;
            }
        }
        now.fires.add(fresh);
        now.fireOf[i] = now.fires.size() - 1;
        return now.fireOf[i];
    }

    boolean apart(int i) {
        if (i < 0 || i > 59 || now.fireOf[i] == NONE || now.fires.get(now.fireOf[i]).out) {
            return false;
        }
        act();
        now.fireOf[i] = NONE;
        return true;
    }

    int office() {
        for (int joined = 0; ; joined++) {
            int i = 0;
            while (i < 60 && howManyFit(i) != 1) {
                i++;
            }
            if (i == 60) {
                return joined;
            }
            int f = 0;
            while (!fits(i, f)) {
                f++;
            }
            join(i, f);
        }
    }

    boolean out(int f) {
        if (!isFire(f) || stateOf(f) != 0) {
            return false;
        }
        act();
        now.fires.get(f).out = true;
        return true;
    }

    private int middle(int f) {
        int least = Integer.MAX_VALUE;
        int found = NONE;
        TreeSet<Integer> all = patchOf(f);
        for (int q : all) {
            int sum = 0;
            for (int p : all) {
                sum += Math.abs(q / 16 - p / 16) + Math.abs(q % 16 - p % 16);
            }
            if (sum < least) {
                least = sum;
                found = q;
            }
        }
        return found;
    }

    int fire(int f, int what) {
        if (!isFire(f)) {
            return NONE;
        }
        return switch (what) {
            case 0 -> stateOf(f);
            case 1 -> members(f);
            case 2 -> patchOf(f).size();
            case 3 -> middle(f);
            case 4 -> now.fires.get(f).again;
            default -> NONE;
        };
    }

    int patch(int f, int k) {
        return isFire(f) ? rank(patchOf(f), k) : NONE;
    }

    int fewest(int from, int to) {
        List<Integer> asked = new ArrayList<>();
        for (int i = 0; i < 60; i++) {
            if (isSighting(i) && now.log[i].number >= from && now.log[i].number <= to) {
                asked.add(i);
                if (now.log[i].squares.isEmpty()) {
                    return NONE;
                }
            }
        }
        return asked.size() > 10 ? NONE : fewestOf(asked, 0, new ArrayList<>());
    }

    private int fewestOf(List<Integer> asked, int n, List<List<Integer>> groups) {
        if (n == asked.size()) {
            return groups.size();
        }
        int i = asked.get(n);
        int least = Integer.MAX_VALUE;
        for (int g = 0; g < groups.size(); g++) {
            List<Integer> group = groups.get(g);
            TreeSet<Integer> all = new TreeSet<>(now.log[i].squares);
            boolean clash = false;
            for (int j : group) {
                all.retainAll(now.log[j].squares);
                clash |= alike(i, j);
            }
            if (!clash && !all.isEmpty()) {
                group.add(i);
                least = Math.min(least, fewestOf(asked, n + 1, groups));
                group.remove(group.size() - 1);
            }
        }
        groups.add(new ArrayList<>(List.of(i)));
        least = Math.min(least, fewestOf(asked, n + 1, groups));
        groups.remove(groups.size() - 1);
        return least;
    }

    int next(int f) {
        if (!isFire(f) || stateOf(f) != 0) {
            return NONE;
        }
        int[][] ways = {{-1, 0}, {-1, 1}, {0, 1}, {1, 1}, {1, 0}, {1, -1}, {0, -1}, {-1, -1}};
        int least = Integer.MAX_VALUE;
        int found = NONE;
        for (int t = 0; t < towers.size(); t++) {
            for (int d = 0; d < 8; d++) {
                TreeSet<Integer> has = cone(towers.get(t), ways[d][0], ways[d][1], 41, NONE, true);
                has.retainAll(patchOf(f));
                int greater = Math.max(has.size(), patchOf(f).size() - has.size());
                if (greater < least) {
                    least = greater;
                    found = 8 * t + d;
                }
            }
        }
        return found;
    }

    int crew(int r, int c) {
        if (!there(r, c) || now.crews.size() == 8) {
            return NONE;
        }
        act();
        now.crews.add(16 * r + c);
        return now.crews.size() - 1;
    }

    /** A way with its sum; the better one has the lesser sum, then the lesser numbers from the front. */
    private record Way(int sum, List<Integer> squares) {
        boolean isBetter(Way o) {
            if (o == null || sum != o.sum) {
                return o == null || sum < o.sum;
            }
            for (int n = 0; n < Math.min(squares.size(), o.squares.size()); n++) {
                int by = Integer.compare(squares.get(n), o.squares.get(n));
                if (by != 0) {
                    return by < 0;
                }
            }
            return false;
        }
    }

    /** The best ways from a square to all others, bettered until nothing gets better. */
    private Way[] waysFrom(int start) {
        Way[] ways = new Way[256];
        ways[start] = new Way(0, List.of(start));
        int[][] steps = {{-1, 0}, {0, -1}, {0, 1}, {1, 0}};
        for (boolean better = true; better; ) {
            better = false;
            for (int q = 0; q < 256; q++) {
                for (int[] step : steps) {
                    int r = q / 16 + step[0];
                    int c = q % 16 + step[1];
                    if (ways[q] == null || !there(r, c)) {
                        continue;
                    }
                    int higher = Math.max(0, height[r][c] - height[q / 16][q % 16]);
                    List<Integer> longer = new ArrayList<>(ways[q].squares);
                    longer.add(16 * r + c);
                    Way way = new Way(ways[q].sum + stepMinutes[r][c] + higher / 10, longer);
                    if (way.isBetter(ways[16 * r + c])) {
                        ways[16 * r + c] = way;
                        better = true;
                    }
                }
            }
        }
        return ways;
    }

    private Way wayOf(int k, int r, int c) {
        return k < 0 || k >= now.crews.size() || !there(r, c) ? null : waysFrom(now.crews.get(k))[16 * r + c];
    }

    boolean move(int k, int r, int c) {
        if (wayOf(k, r, c) == null) {
            return false;
        }
        act();
        now.crews.set(k, 16 * r + c);
        return true;
    }

    int place(int k) {
        return k >= 0 && k < now.crews.size() ? now.crews.get(k) : NONE;
    }

    int minutes(int k, int r, int c) {
        Way way = wayOf(k, r, c);
        return way == null ? NONE : way.sum;
    }

    int way(int k, int r, int c, int i) {
        Way way = wayOf(k, r, c);
        return way == null || i < 0 || i >= way.squares.size() ? NONE : way.squares.get(i);
    }

    int send() {
        List<Integer> burning = new ArrayList<>();
        for (int f = 0; f < now.fires.size(); f++) {
            if (stateOf(f) == 0) {
                burning.add(f);
            }
        }
        if (burning.isEmpty() || burning.size() > now.crews.size()) {
            return NONE;
        }
        int[][] cost = new int[burning.size()][now.crews.size()];
        for (int k = 0; k < now.crews.size(); k++) {
            Way[] ways = waysFrom(now.crews.get(k));
            for (int n = 0; n < burning.size(); n++) {
                Way way = ways[middle(burning.get(n))];
                cost[n][k] = way == null ? NONE : way.sum;
            }
        }
        bestRow = null;
        bestSum = Integer.MAX_VALUE;
        tryRows(cost, 0, 0, new int[burning.size()]);
        if (bestRow == null) {
            return NONE;
        }
        sent = filled(20);
        for (int n = 0; n < burning.size(); n++) {
            sent[burning.get(n)] = bestRow[n];
        }
        return bestSum;
    }

    private int[] bestRow;
    private int bestSum;

    private void tryRows(int[][] cost, int n, int sum, int[] row) {
        if (n == cost.length) {
            if (sum < bestSum) {
                bestSum = sum;
                bestRow = row.clone();
            }
            return;
        }
        for (int k = 0; k < cost[n].length; k++) {
            boolean free = cost[n][k] != NONE;
            for (int m = 0; m < n; m++) {
                free &= row[m] != k;
            }
            if (free) {
                row[n] = k;
                tryRows(cost, n + 1, sum + cost[n][k], row);
            }
        }
    }

    int sent(int f) {
        return f >= 0 && f < 20 ? sent[f] : NONE;
    }

    private TreeSet<Integer> unseen() {
        TreeSet<Integer> set = new TreeSet<>();
        for (int q = 0; q < 256; q++) {
            boolean blind = there(q / 16, q % 16);
            for (int t = 0; t < towers.size() && blind; t++) {
                blind = see(t, q / 16, q % 16) == 0;
            }
            if (blind) {
                set.add(q);
            }
        }
        return set;
    }

    int blinds() {
        return unseen().size();
    }

    int blind(int k) {
        return rank(unseen(), k);
    }

    int best() {
        TreeSet<Integer> blind = unseen();
        int most = 0;
        int found = NONE;
        for (int q = 0; q < 256; q++) {
            int n = 0;
            for (int p : blind) {
                n += there(q / 16, q % 16) && sees(q / 16, q % 16, 10, p / 16, p % 16) ? 1 : 0;
            }
            if (n > most) {
                most = n;
                found = q;
            }
        }
        return found;
    }

    boolean claim(int i, int f) {
        if (i < 0 || i > 59 || f < -1 || f > 59) {
            return false;
        }
        said[i] = f;
        return true;
    }

    int check() {
        for (int i = 0; i < 60; i++) {
            if (!isSighting(i) || said[i] == NONE) {
                continue;
            }
            TreeSet<Integer> all = new TreeSet<>(now.log[i].squares);
            boolean clash = false;
            for (int j = 0; j < i; j++) {
                if (isSighting(j) && said[j] == said[i]) {
                    all.retainAll(now.log[j].squares);
                    clash |= alike(i, j);
                }
            }
            if (clash || all.isEmpty()) {
                return i;
            }
        }
        return NONE;
    }

    boolean undo() {
        if (before.isEmpty()) {
            return false;
        }
        now = before.remove(before.size() - 1);
        return true;
    }

    int count(int what) {
        int used = 0;
        for (Item item : now.log) {
            used += item == null ? 0 : 1;
        }
        int squares = 0;
        for (int q = 0; q < 256; q++) {
            squares += there(q / 16, q % 16) ? 1 : 0;
        }
        int[] told = {towers.size(), used, now.fires.size(), now.crews.size(), before.size(), squares};
        return what >= 0 && what < told.length ? told[what] : NONE;
    }
}
