import java.util.ArrayList;
import java.util.Collections;
import java.util.List;

/** The document's words as plainly as can be, by trying everything: slow, and used by tests alone. */
final class PlainClockCall {
    static final int NONE = -1;

    record Fact(String kind, int who, int x, int y, boolean isPrivate) { }

    static final class Row {
        int length;
        int chain;
        int chair;
        List<Integer> options = new ArrayList<>();
        int[] roles = new int[12];
        int[][] planned = new int[52][];
    }

    private final List<Integer> lands = new ArrayList<>();
    private final List<int[]> persons = new ArrayList<>();
    private final List<List<Integer>> cells = new ArrayList<>();
    private final List<Fact> facts = new ArrayList<>();
    private final List<Row> rows = new ArrayList<>();
    private List<Integer> stuck = new ArrayList<>();

    // ---- what there is

    int land(int offset) {
        if (lands.size() == 8 || offset < -24 || offset > 28) return NONE;
        lands.add(offset);
        return lands.size() - 1;
    }

    int person(int land, int off) {
        if (persons.size() == 12 || !in(land, lands.size()) || off < 0 || off > 127) return NONE;
        persons.add(new int[] {land, off});
        cells.add(null);
        return persons.size() - 1;
    }

    boolean row(int p, int n) {
        if (!in(p, persons.size())) return false;
        if (n == NONE) {
            cells.set(p, null);
            return true;
        }
        if (n < 1 || n > 48) return false;
        cells.set(p, new ArrayList<>(Collections.nCopies(n, 0)));
        return true;
    }

    boolean cell(int p, int i, int v) {
        if (!in(p, persons.size()) || cells.get(p) == null || !in(i, cells.get(p).size())) return false;
        if (v < -1 || v > 100) return false;
        cells.get(p).set(i, v);
        return true;
    }

    int change(int land, int t, int offset) {
        if (!in(land, lands.size()) || !in(t, 17472) || offset < -24 || offset > 28) return NONE;
        return tell(new Fact("change", land, t, offset, false));
    }

    int feast(int land, int day) {
        if (!in(land, lands.size()) || !in(day, 364)) return NONE;
        return tell(new Fact("feast", land, day, 0, false));
    }

    int busy(int p, int a, int b, boolean isPrivate) {
        if (!in(p, persons.size()) || a < 0 || a > b - 1L || b > 17472) return NONE;
        return tell(new Fact("busy", p, a, b, isPrivate));
    }

    int cant(int p, int series, int week) {
        if (!in(p, persons.size()) || !in(series, rows.size()) || !in(week, 52)) return NONE;
        return tell(new Fact("cant", p, series, week, false));
    }

    private int tell(Fact fact) {
        if (facts.size() == 400) return NONE;
        facts.add(fact);
        return facts.size() - 1;
    }

    int series(int length, int chain, int chair) {
        if (rows.size() == 4 || length < 1 || length > 6) return NONE;
        if (chain != NONE && !in(chain, rows.size())) return NONE;
        if (chair != NONE && !in(chair, persons.size())) return NONE;
        Row r = new Row();
        r.length = length;
        r.chain = chain;
        r.chair = chair;
        rows.add(r);
        return rows.size() - 1;
    }

    int option(int series, int t) {
        if (!in(series, rows.size()) || rows.get(series).options.size() == 6 || !in(t, 336)) return NONE;
        rows.get(series).options.add(t);
        return rows.get(series).options.size() - 1;
    }

    boolean role(int series, int p, int r) {
        if (!in(series, rows.size()) || !in(p, persons.size()) || !in(r, 6)) return false;
        rows.get(series).roles[p] = r;
        return true;
    }

    // ---- clocks and persons

    private int offset(int land, int t, int n) {
        int best = NONE;
        for (int f = 0; f < n; f++) {
            Fact fact = facts.get(f);
            if (fact.kind().equals("change") && fact.who() == land && fact.x() <= t
                    && (best == NONE || fact.x() >= facts.get(best).x())) {
                best = f;
            }
        }
        return best == NONE ? lands.get(land) : facts.get(best).y();
    }

    int local(int land, int t, int n, int what) {
        if (!in(land, lands.size()) || !in(t, 17472) || !known(n) || !in(what, 4)) return -1000000;
        int offset = offset(land, t, n);
        int day = 0;
        int rest = t + offset;
        while (rest < 0) {
            rest += 48;
            day--;
        }
        while (rest >= 48) {
            rest -= 48;
            day++;
        }
        int weekday = (day + 7) % 7;
        return new int[] {day, rest, weekday, offset}[what];
    }

    int when(int land, int day, int slot, int n, int what) {
        if (!in(land, lands.size()) || day < -1 || day > 364 || !in(slot, 48) || !known(n) || !in(what, 3)) {
            return NONE;
        }
        List<Integer> at = new ArrayList<>();
        for (int t = Math.max(0, day * 48 + slot - 100); t < 17472 && t < day * 48 + slot + 100; t++) {
            if (t + offset(land, t, n) == day * 48 + slot) at.add(t);
        }
        if (what == 0) return at.size();
        if (at.isEmpty()) return NONE;
        return what == 1 ? at.get(0) : at.get(at.size() - 1);
    }

    private int cellAt(int p, int t, int n) {
        List<Integer> all = cells.get(p);
        if (all == null) return 0;
        int slot = local(persons.get(p)[0], t, n, 1);
        return slot < all.size() ? all.get(slot) : all.get(all.size() - 1);
    }

    private int reason(int p, int t, int n) {
        int land = persons.get(p)[0];
        if (cellAt(p, t, n) == -1) return 1;
        if ((persons.get(p)[1] & (1 << local(land, t, n, 2))) != 0) return 2;
        for (Fact f : facts.subList(0, n)) {
            if (f.kind().equals("feast") && f.who() == land && f.x() == local(land, t, n, 0)) return 3;
        }
        for (Fact f : facts.subList(0, n)) {
            if (f.kind().equals("busy") && f.who() == p && f.x() <= t && t < f.y()) return 4;
        }
        return 0;
    }

    int can(int p, int t, int l, int n) {
        if (!in(p, persons.size()) || !in(t, 17472) || l < 1 || l > 6 || t + l > 17472 || !known(n)) return NONE;
        for (int k = t; k < t + l; k++) {
            if (reason(p, k, n) != 0) return reason(p, k, n);
        }
        return 0;
    }

    int cost(int p, int t, int l, int n) {
        if (!in(p, persons.size()) || !in(t, 17472) || l < 1 || l > 6 || t + l > 17472 || !known(n)) return NONE;
        int all = 0;
        for (int k = t; k < t + l; k++) {
            if (cellAt(p, k, n) > 0) all += cellAt(p, k, n);
        }
        return all;
    }

    int span(int p, int t, int n) {
        if (!in(p, persons.size()) || !in(t, 17472) || !known(n)) return NONE;
        for (int f = n - 1; f >= 0; f--) {
            Fact fact = facts.get(f);
            if (fact.kind().equals("busy") && fact.who() == p && fact.x() <= t && t < fact.y()) {
                return fact.isPrivate() ? -2 : f;
            }
        }
        return NONE;
    }

    // ---- meetings; what a series has is {i} or {i, j}

    private int start(int s, int week, int option) {
        return week * 336 + rows.get(s).options.get(option);
    }

    private boolean share(int a, int la, int b, int lb) {
        for (int k = a; k < a + la; k++) {
            if (k >= b && k < b + lb) return true;
        }
        return false;
    }

    private boolean free(int p, int s, int week, int option, int n) {
        int t = start(s, week, option);
        if (can(p, t, rows.get(s).length, n) != 0) return false;
        for (Fact f : facts.subList(0, n)) {
            if (f.kind().equals("cant") && f.who() == p && f.x() == s && f.y() == week) return false;
        }
        for (int r = 0; r < s; r++) {
            int[] has = rows.get(r).planned[week];
            if (has == null) continue;
            int code = code(p, r, week, has, n);
            for (int h = 0; h < has.length; h++) {
                boolean toIt = (code & (1 << h)) != 0;
                if (toIt && share(t, rows.get(s).length, start(r, week, has[h]), rows.get(r).length)) return false;
            }
        }
        return true;
    }

    private int code(int p, int s, int week, int[] has, int n) {
        Row r = rows.get(s);
        if (r.roles[p] == 0 && r.chair != p) return 0;
        boolean first = free(p, s, week, has[0], n);
        if (has.length == 1) return first ? 1 : 0;
        boolean second = free(p, s, week, has[1], n);
        if (r.chair == p || !(first && second)) return (first ? 1 : 0) + (second ? 2 : 0);
        return halfCost(p, s, week, has[1], n) < halfCost(p, s, week, has[0], n) ? 2 : 1;
    }

    private int halfCost(int p, int s, int week, int option, int n) {
        return cost(p, start(s, week, option), rows.get(s).length, n);
    }

    private int costOf(int p, int s, int week, int[] has, int n) {
        int code = code(p, s, week, has, n);
        int all = 0;
        for (int h = 0; h < has.length; h++) {
            if ((code & (1 << h)) != 0) all += halfCost(p, s, week, has[h], n);
        }
        return all;
    }

    private boolean inYear(int s, int week, int[] has) {
        for (int o : has) {
            if (start(s, week, o) + rows.get(s).length > 17472) return false;
        }
        return true;
    }

    private boolean apart(int s, int week, int[] has) {
        int l = rows.get(s).length;
        return has.length == 1 || !share(start(s, week, has[0]), l, start(s, week, has[1]), l);
    }

    private boolean freeFor(int p, int s, int week, int[] has, int n, boolean asChair) {
        int times = 0;
        for (int o : has) {
            if (free(p, s, week, o, n)) times++;
        }
        return asChair ? times == has.length : times > 0;
    }

    private boolean fitsIt(int s, int week, int[] has, int n) {
        Row r = rows.get(s);
        if (!inYear(s, week, has) || !apart(s, week, has)) return false;
        boolean[] asked = new boolean[6];
        boolean[] met = new boolean[6];
        for (int p = 0; p < persons.size(); p++) {
            boolean is = freeFor(p, s, week, has, n, false);
            if (r.roles[p] == 1 && !is) return false;
            if (r.chair == p && !freeFor(p, s, week, has, n, true)) return false;
            asked[r.roles[p]] = true;
            met[r.roles[p]] |= is;
        }
        for (int g = 3; g < 6; g++) {
            if (asked[g] && !met[g]) return false;
        }
        if (r.chain == NONE || rows.get(r.chain).planned[week] == null) return true;
        for (int c : rows.get(r.chain).planned[week]) {
            for (int o : has) {
                if (start(r.chain, week, c) + rows.get(r.chain).length > start(s, week, o)) return false;
            }
        }
        return true;
    }

    private List<int[]> choices(int s) {
        List<int[]> all = new ArrayList<>();
        int size = rows.get(s).options.size();
        for (int i = 0; i < size; i++) {
            if (rows.get(s).chair == NONE) all.add(new int[] {i});
            for (int j = i + 1; j < size && rows.get(s).chair != NONE; j++) all.add(new int[] {i, j});
        }
        return all;
    }

    int fits(int series, int week, int i, int j, int n) {
        if (!in(series, rows.size()) || !in(week, 52) || !known(n)) return NONE;
        for (int[] has : choices(series)) {
            if (has[0] == i && (has.length == 1 ? NONE : has[1]) == j) return fitsIt(series, week, has, n) ? 1 : 0;
        }
        return NONE;
    }

    // ---- plans and moves

    private List<Integer> bestSums;
    private List<int[]> bestWay;
    private int bestChanges;

    private static int inOrder(List<Integer> a, List<Integer> b) {
        for (int k = 0; k < a.size(); k++) {
            if (!a.get(k).equals(b.get(k))) return a.get(k) - b.get(k);
        }
        return 0;
    }

    private void offer(int changes, int[] sums, List<int[]> way) {
        List<Integer> sorted = new ArrayList<>();
        for (int sum : sums) sorted.add(sum);
        sorted.sort(Collections.reverseOrder());
        if (bestWay == null || changes < bestChanges
                || changes == bestChanges && inOrder(sorted, bestSums) < 0) {
            bestChanges = changes;
            bestSums = sorted;
            bestWay = new ArrayList<>(way);
        }
    }

    int plan(int series, int a, int b, int n) {
        if (!in(series, rows.size()) || !known(n) || a < 0 || a > b - 1L || b > 52) return -2;
        if (b - a > (rows.get(series).chair == NONE ? 6 : 4)) return -2;
        stuck = new ArrayList<>();
        List<List<int[]>> fitting = new ArrayList<>();
        List<List<int[]>> prices = new ArrayList<>();
        for (int week = a; week < b; week++) {
            List<int[]> some = new ArrayList<>();
            List<int[]> cost = new ArrayList<>();
            for (int[] has : choices(series)) {
                if (fitsIt(series, week, has, n)) {
                    some.add(has);
                    cost.add(costs(series, week, has, n));
                }
            }
            if (some.isEmpty()) {
                stuck = stuckOf(series, week, n);
                return NONE;
            }
            fitting.add(some);
            prices.add(cost);
        }
        bestWay = null;
        tryPlans(fitting, prices, new int[persons.size()], new ArrayList<>());
        for (int week = a; week < b; week++) rows.get(series).planned[week] = bestWay.get(week - a);
        return bestSums.isEmpty() ? 0 : bestSums.get(0);
    }

    private int[] costs(int s, int week, int[] has, int n) {
        int[] all = new int[persons.size()];
        for (int p = 0; p < all.length; p++) all[p] = costOf(p, s, week, has, n);
        return all;
    }

    private static int[] plus(int[] a, int[] b) {
        int[] all = a.clone();
        for (int k = 0; k < all.length; k++) all[k] += b[k];
        return all;
    }

    private void tryPlans(List<List<int[]>> fitting, List<List<int[]>> prices, int[] sums, List<int[]> way) {
        int k = way.size();
        if (k == fitting.size()) {
            offer(0, sums, way);
            return;
        }
        for (int c = 0; c < fitting.get(k).size(); c++) {
            way.add(fitting.get(k).get(c));
            tryPlans(fitting, prices, plus(sums, prices.get(k).get(c)), way);
            way.remove(k);
        }
    }

    private List<Integer> stuckOf(int s, int week, int n) {
        List<Integer> all = new ArrayList<>();
        for (int p = 0; p < persons.size(); p++) {
            if (rows.get(s).roles[p] == 1 || rows.get(s).chair == p) all.add(p);
        }
        for (int size = 0; size <= all.size(); size++) {
            List<Integer> found = firstStuck(s, week, n, all, new ArrayList<>(), 0, size);
            if (found != null) return found;
        }
        return new ArrayList<>();
    }

    private List<Integer> firstStuck(int s, int week, int n, List<Integer> all, List<Integer> set, int at, int size) {
        if (set.size() == size) return nothingFitsBy(s, week, n, set) ? set : null;
        for (int k = at; k < all.size(); k++) {
            List<Integer> more = new ArrayList<>(set);
            more.add(all.get(k));
            List<Integer> found = firstStuck(s, week, n, all, more, k + 1, size);
            if (found != null) return found;
        }
        return null;
    }

    private boolean nothingFitsBy(int s, int week, int n, List<Integer> set) {
        for (int[] has : choices(s)) {
            if (!inYear(s, week, has) || !apart(s, week, has)) continue;
            boolean good = true;
            for (int p : set) good &= freeFor(p, s, week, has, n, rows.get(s).chair == p);
            if (good) return false;
        }
        return true;
    }

    int stuck(int i) {
        return in(i, stuck.size()) ? stuck.get(i) : NONE;
    }

    int move(int week, int n) {
        if (!in(week, 52) || !known(n)) return -2;
        int[][] now = new int[rows.size()][];
        for (int s = 0; s < now.length; s++) now[s] = rows.get(s).planned[week];
        bestWay = null;
        tryMoves(week, n, now, 0, new int[persons.size()], new ArrayList<>());
        for (int s = 0; s < now.length; s++) rows.get(s).planned[week] = bestWay == null ? now[s] : bestWay.get(s);
        return bestWay == null ? NONE : bestChanges;
    }

    private void tryMoves(int week, int n, int[][] now, int s, int[] sums, List<int[]> way) {
        if (s == now.length) {
            int changes = 0;
            for (int k = 0; k < s; k++) {
                if (now[k] != null && !java.util.Arrays.equals(now[k], way.get(k))) changes++;
            }
            offer(changes, sums, way);
            return;
        }
        if (now[s] == null) {
            way.add(null);
            tryMoves(week, n, now, s + 1, sums, way);
            way.remove(s);
            return;
        }
        for (int[] has : choices(s)) {
            if (fitsIt(s, week, has, n)) {
                rows.get(s).planned[week] = has;
                way.add(has);
                tryMoves(week, n, now, s + 1, plus(sums, costs(s, week, has, n)), way);
                way.remove(s);
            }
        }
    }

    // ---- what is planned

    int planned(int series, int week, int what) {
        if (!in(series, rows.size()) || !in(week, 52) || !in(what, 4)) return NONE;
        int[] has = rows.get(series).planned[week];
        if (has == null || what % 2 >= has.length) return NONE;
        return what < 2 ? has[what] : start(series, week, has[what - 2]);
    }

    int comes(int p, int series, int week, int n) {
        if (!in(p, persons.size()) || !in(series, rows.size()) || !in(week, 52) || !known(n)) return NONE;
        int[] has = rows.get(series).planned[week];
        return has == null ? NONE : code(p, series, week, has, n);
    }

    int sum(int p, int n) {
        if (!in(p, persons.size()) || !known(n)) return NONE;
        int all = 0;
        for (int s = 0; s < rows.size(); s++) {
            for (int week = 0; week < 52; week++) {
                int[] has = rows.get(s).planned[week];
                if (has != null) all += costOf(p, s, week, has, n);
            }
        }
        return all;
    }

    int shifted(int n, int m) {
        if (!known(n) || !known(m)) return NONE;
        int all = 0;
        for (int s = 0; s < rows.size(); s++) {
            for (int week = 0; week < 52; week++) {
                int[] has = rows.get(s).planned[week];
                for (int h = 0; has != null && h < has.length; h++) {
                    boolean is = false;
                    for (int p = 0; p < persons.size(); p++) {
                        int land = persons.get(p)[0];
                        int t = start(s, week, has[h]);
                        is |= rows.get(s).roles[p] != 0 && (local(land, t, n, 0) != local(land, t, m, 0)
                                || local(land, t, n, 1) != local(land, t, m, 1));
                    }
                    if (is) all++;
                }
            }
        }
        return all;
    }

    int count(int what) {
        int meetings = 0;
        for (Row r : rows) {
            for (int[] has : r.planned) {
                if (has != null) meetings++;
            }
        }
        return in(what, 5) ? new int[] {lands.size(), persons.size(), facts.size(), rows.size(), meetings}[what] : NONE;
    }

    private boolean known(int n) {
        return n >= 0 && n <= facts.size();
    }

    private static boolean in(int i, int size) {
        return i >= 0 && i < size;
    }
}
