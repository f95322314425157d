import java.util.Random;

/** Runs of up to 512 calls, drawn from fixed seeds, answered by ClockCall and by the plain one alike. */
public final class AgainstPlainTest {
    private static final int CALLS = 512;
    private static final int MOST_OF_ONE_STEP = 1 + 13 + 6 * 2;
    private static final int[] WILD = {Integer.MIN_VALUE, -1000, -2, -1, 0, 1, 12, 48, 336, 364, 17472, 100000, Integer.MAX_VALUE};

    private static final int[] IN_WORLD = {9, 9, 9, 9, 9, 9, 9, 9, 9, 10, 10, 7, 4, 14};

    private final Random random;
    private final ClockCall real = new ClockCall();
    private final PlainClockCall plain = new PlainClockCall();
    private final StringBuilder log = new StringBuilder();
    private final int[] seen;
    private final int setUp;
    private final int spread;
    private int calls;
    private boolean isWrong;

    private AgainstPlainTest(long seed, int[] seen) {
        this.random = new Random(seed);
        this.seen = seen;
        this.setUp = seed % 3 == 0 ? 20 + random.nextInt(100) : 0;
        this.spread = 2 + random.nextInt(30);
    }

    public static void main(String[] args) {
        int runs = args.length > 0 ? Integer.parseInt(args[0]) : 4000;
        int first = args.length > 1 ? Integer.parseInt(args[1]) : 1;
        int[] seen = new int[64];
        for (int seed = first; seed < first + runs; seed++) {
            AgainstPlainTest test = new AgainstPlainTest(seed, seen);
            if (seed % 3 != 0) test.makeWorld();
            for (int k = 0; test.calls <= CALLS - MOST_OF_ONE_STEP && !test.isWrong; k++) test.call(k);
            if (test.isWrong) {
                System.out.println("seed " + seed + ":\n" + test.log);
                System.exit(1);
            }
        }
        System.out.println("planned " + seen[0] + ", not planned " + seen[1] + " (stuck 0.." + "4+: " + seen[10] + " "
                + seen[11] + " " + seen[12] + " " + seen[13] + " " + seen[14] + "), moved none " + seen[20] + ", one "
                + seen[21] + ", two " + seen[22] + ", three " + seen[23] + ", four " + seen[24] + ", not moved " + seen[2]);
        for (int what : new int[] {0, 1, 10, 11, 12, 13, 20, 21, 22, 23, 2}) {
            if (seen[what] == 0 && runs >= 4000) {
                System.out.println("the runs never met case " + what);
                System.exit(1);
            }
        }
        System.out.println(runs + " runs answered alike");
    }

    /** Enough persons and options that plans, moves and stuck ones are not trivial. */
    private void makeWorld() {
        int size = 3 + random.nextInt(10);
        for (int l = 0; l < 3; l++) due("land", real.land(l * 3), plain.land(l * 3));
        for (int p = 0; p < size; p++) {
            int l = random.nextInt(3);
            due("person", real.person(l, 0), plain.person(l, 0));
            due("row", of(real.row(p, 48)), of(plain.row(p, 48)));
            for (int c = random.nextInt(12); c > 0; c--) {
                int i = (10 + random.nextInt(spread + 6)) % 48, v = random.nextInt(25) == 0 ? -1 : random.nextInt(6);
                due("cell " + p + " " + i + " " + v, of(real.cell(p, i, v)), of(plain.cell(p, i, v)));
            }
        }
        for (int s = 0; s < 4; s++) {
            int length = 1 + random.nextInt(2), chain = random.nextInt(3) == 0 ? s - 1 : -1, chair = random.nextInt(2) == 0 ? random.nextInt(size) : -1;
            due("series " + length + " " + chain + " " + chair, real.series(length, chain, chair), plain.series(length, chain, chair));
            for (int o = 3 + random.nextInt(4); o > 0; o--) {
                int t = 10 + random.nextInt(spread);
                due("option " + s + " " + t, real.option(s, t), plain.option(s, t));
            }
            int must = random.nextInt(4);
            for (int p = 0; p < size; p++) {
                int r = random.nextInt(4) < must ? 1 : random.nextInt(2) == 0 ? 0 : 2 + random.nextInt(4);
                due("role " + s + " " + p + " " + r, of(real.role(s, p, r)), of(plain.role(s, p, r)));
            }
        }
    }

    private int upTo(int size) {
        if (random.nextInt(60) == 0) return WILD[random.nextInt(WILD.length)];
        return size <= 0 ? 0 : random.nextInt(size);
    }

    private int orNone(int size, int oneIn) {
        return random.nextInt(oneIn) != 0 ? -1 : upTo(size);
    }

    private int land() { return upTo(plain.count(0)); }
    private int person() { return upTo(plain.count(1)); }
    private int series() { return upTo(plain.count(3)); }
    private int known() { return random.nextInt(3) > 0 ? plain.count(2) : upTo(plain.count(2) + 2); }
    private int week() { return random.nextInt(20) == 0 ? upTo(52) : random.nextInt(8) == 0 ? 51 : upTo(3); }
    private int ofWeek() { return random.nextInt(12) == 0 ? upTo(336) : random.nextInt(10) == 0 ? 335 - random.nextInt(6) : 10 + upTo(spread); }
    private int slot() { int w = week(); return w < 0 || w > 51 ? w : w * 336 + ofWeek(); }
    private int offset() { return random.nextInt(30) == 0 ? 29 - 54 * random.nextInt(2) : random.nextInt(2) == 0 ? random.nextInt(9) - 4 : random.nextInt(53) - 24; }

    private void due(String call, int got, int want) {
        calls++;
        log.append(call).append(" -> ").append(got).append('\n');
        if (got != want) {
            log.append("due is ").append(want).append('\n');
            isWrong = true;
        }
    }

    private static int of(boolean is) { return is ? 1 : 0; }

    private void call(int k) {
        if (k < setUp) tell(random.nextInt(15));
        else if (random.nextInt(3) == 0) tell(setUp > 0 ? random.nextInt(15) : IN_WORLD[random.nextInt(IN_WORLD.length)]);
        else ask(random.nextInt(16));
    }

    private void tell(int kind) {
        switch (kind) {
            case 0 -> { int o = offset(); due("land " + o, real.land(o), plain.land(o)); }
            case 1, 2 -> {
                int l = land();
                int off = random.nextInt(3) == 0 ? 1 << random.nextInt(8) : random.nextInt(30) == 0 ? -1 : 0;
                due("person " + l + " " + off, real.person(l, off), plain.person(l, off));
            }
            case 3 -> {
                int p = person();
                int n = random.nextInt(9) == 0 ? -1 - random.nextInt(2) : random.nextInt(50);
                due("row " + p + " " + n, of(real.row(p, n)), of(plain.row(p, n)));
            }
            case 4, 5, 6 -> {
                int p = person();
                int i = random.nextInt(4) == 0 ? upTo(50) : 10 + upTo(spread);
                int v = random.nextInt(6) == 0 ? -1 - random.nextInt(2) : random.nextInt(8) == 0 ? random.nextInt(103) : random.nextInt(5);
                due("cell " + p + " " + i + " " + v, of(real.cell(p, i, v)), of(plain.cell(p, i, v)));
            }
            case 7 -> {
                int l = land(), t = slot(), o = offset();
                due("change " + l + " " + t + " " + o, real.change(l, t, o), plain.change(l, t, o));
            }
            case 8 -> {
                int l = land(), d = random.nextInt(3) == 0 ? upTo(366) - 1 : 7 * upTo(3);
                due("feast " + l + " " + d, real.feast(l, d), plain.feast(l, d));
            }
            case 9 -> {
                int p = person(), a = slot(), b = random.nextInt(20) == 0 ? slot() : a + random.nextInt(6);
                boolean x = random.nextBoolean();
                due("busy " + p + " " + a + " " + b + " " + x, real.busy(p, a, b, x), plain.busy(p, a, b, x));
            }
            case 10 -> {
                int p = person(), s = series(), w = week();
                due("cant " + p + " " + s + " " + w, real.cant(p, s, w), plain.cant(p, s, w));
            }
            case 11 -> {
                int l = random.nextInt(3) == 0 ? upTo(8) : 1 + random.nextInt(2);
                int c = orNone(plain.count(3), 2), h = orNone(plain.count(1), 2);
                if (plain.count(1) < 2) return;
                due("series " + l + " " + c + " " + h, real.series(l, c, h), plain.series(l, c, h));
            }
            case 12, 13 -> {
                int s = series(), t = ofWeek();
                due("option " + s + " " + t, real.option(s, t), plain.option(s, t));
            }
            default -> {
                int s = series(), p = person(), r = random.nextInt(3) == 0 ? 1 : upTo(6);
                due("role " + s + " " + p + " " + r, of(real.role(s, p, r)), of(plain.role(s, p, r)));
            }
        }
    }

    private void ask(int kind) {
        int n = known();
        switch (kind) {
            case 0 -> {
                int l = land(), t = slot(), w = upTo(5);
                due("local " + l + " " + t + " " + n + " " + w, real.local(l, t, n, w), plain.local(l, t, n, w));
            }
            case 1 -> {
                int l = land(), t = slot(), w = upTo(4);
                int d = random.nextInt(5) == 0 ? upTo(368) - 2 : t / 48, s = random.nextInt(9) == 0 ? upTo(50) - 1 : Math.floorMod(t, 48);
                due("when " + l + " " + d + " " + s + " " + n + " " + w, real.when(l, d, s, n, w), plain.when(l, d, s, n, w));
            }
            case 2 -> {
                int p = person(), t = slot(), l = upTo(8);
                due("can " + p + " " + t + " " + l + " " + n, real.can(p, t, l, n), plain.can(p, t, l, n));
                due("cost " + p + " " + t + " " + l + " " + n, real.cost(p, t, l, n), plain.cost(p, t, l, n));
            }
            case 3 -> {
                int p = person(), t = slot();
                due("span " + p + " " + t + " " + n, real.span(p, t, n), plain.span(p, t, n));
            }
            case 4, 5 -> {
                int s = series(), w = week(), i = upTo(4), j = orNone(7, 2);
                due("fits " + s + " " + w + " " + i + " " + j + " " + n, real.fits(s, w, i, j, n), plain.fits(s, w, i, j, n));
            }
            case 6, 7, 8 -> askPlan(n);
            case 9 -> {
                int i = upTo(4);
                due("stuck " + i, real.stuck(i), plain.stuck(i));
            }
            case 10, 11 -> askMove(n);
            case 12 -> {
                int s = series(), w = week(), x = upTo(5);
                due("planned " + s + " " + w + " " + x, real.planned(s, w, x), plain.planned(s, w, x));
            }
            case 13 -> {
                int p = person(), s = series(), w = week();
                due("comes " + p + " " + s + " " + w + " " + n, real.comes(p, s, w, n), plain.comes(p, s, w, n));
            }
            case 14 -> {
                int p = person();
                due("sum " + p + " " + n, real.sum(p, n), plain.sum(p, n));
            }
            default -> {
                int m = upTo(plain.count(2) + 1), x = upTo(6);
                due("shifted " + m + " " + n, real.shifted(m, n), plain.shifted(m, n));
                due("count " + x, real.count(x), plain.count(x));
            }
        }
    }

    private void askPlan(int n) {
        int s = series(), a = week(), length = random.nextInt(10) == 0 ? 7 - random.nextInt(4) : 1 + random.nextInt(3);
        int b = random.nextInt(30) == 0 ? upTo(56) : a + length;
        int want = plain.plan(s, a, b, n);
        due("plan " + s + " " + a + " " + b + " " + n, real.plan(s, a, b, n), want);
        int held = 0;
        while (plain.stuck(held) != -1) due("stuck " + held, real.stuck(held), plain.stuck(held++));
        due("stuck " + held, real.stuck(held), -1);
        if (want == -1) {
            seen[1]++;
            seen[10 + Math.min(4, held)]++;
        } else if (want >= 0) {
            seen[0]++;
            for (int w = a; w < b; w++) duePlanned(s, w);
        }
    }

    private void askMove(int n) {
        int w = week();
        int want = plain.move(w, n);
        due("move " + w + " " + n, real.move(w, n), want);
        if (want == -1) seen[2]++;
        else if (want >= 0 && hasMeeting(w)) seen[20 + want]++;
        for (int s = 0; s < plain.count(3); s++) duePlanned(s, w);
    }

    private boolean hasMeeting(int week) {
        for (int s = 0; s < 4; s++) {
            if (plain.planned(s, week, 0) != -1) return true;
        }
        return false;
    }

    private void duePlanned(int s, int week) {
        for (int what = 0; what < 2; what++) {
            due("planned " + s + " " + week + " " + what, real.planned(s, week, what), plain.planned(s, week, what));
        }
    }
}
