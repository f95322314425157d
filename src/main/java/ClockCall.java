import java.util.Arrays;

/**
 * A finder of meetings across clocks. The document's promises say what each public method answers.
 *
 * Sets of persons are ints with one bit a person, and what a series has in a week is one number, its
 * choice: an option, or a pair of options in the order of the first, then the second. So the order in
 * which choices are tried is the order in which the document prefers them.
 */
public final class ClockCall {
    public static final int NONE = -1;

    private static final int REFUSED = -2;
    private static final int NOT_TOLD = -2;
    private static final int NO_LOCAL_TIME = -1000000;

    private static final int SLOTS = 17472;
    private static final int DAYS = 364;
    private static final int WEEKS = 52;
    private static final int DAY_SLOTS = 48;
    private static final int WEEK_SLOTS = 336;
    private static final int WEEKDAYS = 7;
    private static final int LEAST_OFFSET = -24;
    private static final int GREATEST_OFFSET = 28;

    private static final int MOST_LANDS = 8;
    private static final int MOST_PERSONS = 12;
    private static final int MOST_FACTS = 400;
    private static final int MOST_SERIES = 4;
    private static final int MOST_OPTIONS = 6;
    private static final int MOST_LENGTH = 6;
    private static final int MOST_PAIRS = 15;
    private static final int MOST_HALVES = 8;
    private static final int MOST_PLAN_WEEKS = 6;
    private static final int MOST_SPLIT_WEEKS = 4;

    private static final int NEVER = -1;
    private static final int GREATEST_CELL = 100;

    private static final int MUST = 1;
    private static final int FIRST_GROUP = 3;
    private static final int ROLES = 6;

    private static final int[] FIRST_OF_PAIR = {0, 0, 0, 0, 0, 1, 1, 1, 1, 2, 2, 2, 3, 3, 4};
    private static final int[] SECOND_OF_PAIR = {1, 2, 3, 4, 5, 2, 3, 4, 5, 3, 4, 5, 4, 5, 5};

    private final Land[] lands;
    private final Person[] persons;
    private final Series[] rows;
    private final Sheet[] sheets;
    private final Board board;
    private final Seating seating;
    private final Planner planner;
    private final Mover mover;
    private final Blame blame;
    private int landCount;
    private int personCount;
    private int factCount;
    private int seriesCount;
    private int stuckOnes;

    public ClockCall() {
        lands = new Land[MOST_LANDS];
        persons = new Person[MOST_PERSONS];
        rows = new Series[MOST_SERIES];
        sheets = new Sheet[MOST_SERIES];
        for (int i = 0; i < MOST_SERIES; i++) {
            sheets[i] = new Sheet();
        }
        board = new Board();
        seating = new Seating();
        planner = new Planner();
        mover = new Mover();
        blame = new Blame();
    }

    // ---- What there is

    public int land(int offset) {
        if (landCount >= MOST_LANDS || !isOffset(offset)) {
            return NONE;
        }
        lands[landCount] = new Land(offset);
        return landCount++;
    }

    public int person(int land, int off) {
        Land home = landAt(land);
        if (personCount >= MOST_PERSONS || home == null || off < 0 || off >= 1 << WEEKDAYS) {
            return NONE;
        }
        persons[personCount] = new Person(home, off);
        return personCount++;
    }

    public boolean row(int p, int n) {
        Person person = personAt(p);
        if (person == null || n == 0 || n < NONE || n > DAY_SLOTS) {
            return false;
        }
        person.clearCells(Math.max(n, 0));
        return true;
    }

    public boolean cell(int p, int i, int v) {
        Person person = personAt(p);
        if (person == null || i < 0 || i >= person.cellCount || v < NEVER || v > GREATEST_CELL) {
            return false;
        }
        person.cells[i] = (byte) v;
        return true;
    }

    public int series(int length, int chain, int chair) {
        Series ahead = seriesAt(chain);
        boolean isChain = chain == NONE || ahead != null;
        boolean isChair = chair == NONE || personAt(chair) != null;
        if (seriesCount >= MOST_SERIES || length < 1 || length > MOST_LENGTH || !isChain || !isChair) {
            return NONE;
        }
        rows[seriesCount] = new Series(seriesCount, length, ahead, chair);
        return seriesCount++;
    }

    public int option(int series, int t) {
        Series s = seriesAt(series);
        if (s == null || s.optionCount >= MOST_OPTIONS || t < 0 || t >= WEEK_SLOTS) {
            return NONE;
        }
        s.slots[s.optionCount] = t;
        return s.optionCount++;
    }

    public boolean role(int series, int p, int r) {
        Series s = seriesAt(series);
        if (s == null || personAt(p) == null || r < 0 || r >= ROLES) {
            return false;
        }
        s.giveRole(p, r);
        return true;
    }

    public int count(int what) {
        switch (what) {
            case 0: return landCount;
            case 1: return personCount;
            case 2: return factCount;
            case 3: return seriesCount;
            case 4: return meetingCount();
            default: return NONE;
        }
    }

    // ---- Facts

    public int change(int land, int t, int offset) {
        Land l = landAt(land);
        if (factCount >= MOST_FACTS || l == null || !isSlot(t) || !isOffset(offset)) {
            return NONE;
        }
        l.changes = new Fact(factCount, t, offset, false, l.changes);
        return factCount++;
    }

    public int feast(int land, int day) {
        Land l = landAt(land);
        if (factCount >= MOST_FACTS || l == null || day < 0 || day >= DAYS) {
            return NONE;
        }
        l.feasts = new Fact(factCount, day, day, false, l.feasts);
        return factCount++;
    }

    public int busy(int p, int a, int b, boolean isPrivate) {
        Person person = personAt(p);
        if (factCount >= MOST_FACTS || person == null || a < 0 || a >= b || b > SLOTS) {
            return NONE;
        }
        person.spans = new Fact(factCount, a, b, isPrivate, person.spans);
        return factCount++;
    }

    public int cant(int p, int series, int week) {
        Series s = seriesAt(series);
        if (factCount >= MOST_FACTS || personAt(p) == null || s == null || !isWeek(week)) {
            return NONE;
        }
        s.cants = new Fact(factCount, p, week, false, s.cants);
        return factCount++;
    }

    // ---- Clocks and persons

    public int local(int land, int t, int n, int what) {
        Land l = landAt(land);
        if (l == null || !isSlot(t) || !isKnown(n)) {
            return NO_LOCAL_TIME;
        }
        int offset = l.offsetAt(t, n);
        int day = Math.floorDiv(t + offset, DAY_SLOTS);
        switch (what) {
            case 0: return day;
            case 1: return Math.floorMod(t + offset, DAY_SLOTS);
            case 2: return Math.floorMod(day, WEEKDAYS);
            case 3: return offset;
            default: return NO_LOCAL_TIME;
        }
    }

    public int when(int land, int day, int slot, int n, int what) {
        Land l = landAt(land);
        boolean isLocalTime = day >= -1 && day <= DAYS && slot >= 0 && slot < DAY_SLOTS;
        if (l == null || !isLocalTime || !isKnown(n)) {
            return NONE;
        }
        int told = day * DAY_SLOTS + slot;
        int times = 0;
        int first = NONE;
        int last = NONE;
        // No offset leads from outside of these slots to the local time.
        int from = Math.max(0, told - GREATEST_OFFSET);
        int to = Math.min(SLOTS - 1, told - LEAST_OFFSET);
        for (int t = from; t <= to; t++) {
            if (t + l.offsetAt(t, n) == told) {
                times++;
                first = first == NONE ? t : first;
                last = t;
            }
        }
        switch (what) {
            case 0: return times;
            case 1: return first;
            case 2: return last;
            default: return NONE;
        }
    }

    public int can(int p, int t, int l, int n) {
        Person person = personAt(p);
        if (person == null || !isStretch(t, l) || !isKnown(n)) {
            return NONE;
        }
        return person.hindrance(t, l, n);
    }

    public int cost(int p, int t, int l, int n) {
        Person person = personAt(p);
        if (person == null || !isStretch(t, l) || !isKnown(n)) {
            return NONE;
        }
        return person.price(t, l, n);
    }

    public int span(int p, int t, int n) {
        Person person = personAt(p);
        if (person == null || !isSlot(t) || !isKnown(n)) {
            return NONE;
        }
        Fact latest = person.spanAt(t, n);
        if (latest == null) {
            return NONE;
        }
        return latest.isPrivate ? NOT_TOLD : latest.number;
    }

    // ---- Plans

    public int fits(int series, int week, int i, int j, int n) {
        Series s = seriesAt(series);
        if (s == null || !isWeek(week) || !isKnown(n)) {
            return NONE;
        }
        int choice = s.choiceOf(i, j);
        if (choice == NONE) {
            return NONE;
        }
        seatLesser(s, week, n);
        Sheet sheet = sheets[s.number];
        sheet.fill(s, s.optionsOf(choice), week, n, s.everyone(), persons);
        return seating.suits(s, sheet, board, choice) ? 1 : 0;
    }

    public int plan(int series, int a, int b, int n) {
        Series s = seriesAt(series);
        boolean areWeeks = a >= 0 && a < b && b <= WEEKS;
        if (s == null || !isKnown(n) || !areWeeks || b - a > s.mostWeeks()) {
            return REFUSED;
        }
        stuckOnes = 0;
        Sheet sheet = sheets[s.number];
        planner.begin(b - a, personCount);
        for (int k = 0; k < b - a; k++) {
            seatLesser(s, a + k, n);
            sheet.fill(s, s.allOptions(), a + k, n, s.everyone(), persons);
            if (!planner.rate(k, s, sheet, board)) {
                stuckOnes = blame.find(s, sheet, board);
                return NONE;
            }
        }
        planner.findBest();
        for (int k = 0; k < b - a; k++) {
            s.chosen[a + k] = planner.best[k];
        }
        return planner.evener.greatest();
    }

    public int stuck(int i) {
        int left = i;
        for (int p = 0; p < MOST_PERSONS; p++) {
            if (isIn(stuckOnes, p)) {
                if (left == 0) {
                    return p;
                }
                left--;
            }
        }
        return NONE;
    }

    public int move(int week, int n) {
        if (!isWeek(week) || !isKnown(n)) {
            return REFUSED;
        }
        mover.begin(personCount);
        for (int i = 0; i < seriesCount; i++) {
            Series s = rows[i];
            if (s.chosen[week] != NONE) {
                sheets[i].fill(s, s.allOptions(), week, n, s.everyone(), persons);
                mover.add(s, sheets[i], s.chosen[week]);
            }
        }
        int changes = mover.findBest();
        if (changes != NONE) {
            mover.settle(week);
        }
        return changes;
    }

    public int planned(int series, int week, int what) {
        Series s = seriesAt(series);
        if (s == null || !isWeek(week) || s.chosen[week] == NONE) {
            return NONE;
        }
        int first = s.firstOf(s.chosen[week]);
        int second = s.secondOf(s.chosen[week]);
        switch (what) {
            case 0: return first;
            case 1: return second;
            case 2: return s.startOf(first, week);
            case 3: return s.startOf(second, week);
            default: return NONE;
        }
    }

    public int comes(int p, int series, int week, int n) {
        Series s = seriesAt(series);
        if (s == null || personAt(p) == null || !isWeek(week) || !isKnown(n) || s.chosen[week] == NONE) {
            return NONE;
        }
        board.clear();
        for (int i = 0; i <= s.number; i++) {
            seat(i, week, n, 1 << p);
        }
        return (isIn(seating.comesFirst, p) ? 1 : 0) + (isIn(seating.comesSecond, p) ? 2 : 0);
    }

    public int sum(int p, int n) {
        if (personAt(p) == null || !isKnown(n)) {
            return NONE;
        }
        int all = 0;
        for (int week = 0; week < WEEKS; week++) {
            board.clear();
            for (int i = 0; i < seriesCount; i++) {
                if (seat(i, week, n, 1 << p)) {
                    all += seating.priceFor(sheets[i], p);
                }
            }
        }
        return all;
    }

    public int shifted(int n, int m) {
        if (!isKnown(n) || !isKnown(m)) {
            return NONE;
        }
        int all = 0;
        for (int i = 0; i < seriesCount; i++) {
            Series s = rows[i];
            for (int week = 0; week < WEEKS; week++) {
                int choice = s.chosen[week];
                if (choice != NONE) {
                    all += isShifted(s, s.startOf(s.firstOf(choice), week), n, m) ? 1 : 0;
                    all += isShifted(s, s.startOf(s.secondOf(choice), week), n, m) ? 1 : 0;
                }
            }
        }
        return all;
    }

    // ---- What several promises need

    private static boolean isOffset(int offset) {
        return offset >= LEAST_OFFSET && offset <= GREATEST_OFFSET;
    }

    private static boolean isSlot(int t) {
        return t >= 0 && t < SLOTS;
    }

    private static boolean isWeek(int week) {
        return week >= 0 && week < WEEKS;
    }

    private static boolean isStretch(int t, int length) {
        return isSlot(t) && length >= 1 && length <= MOST_LENGTH && t + length <= SLOTS;
    }

    private static boolean isIn(int set, int p) {
        return (set >> p & 1) != 0;
    }

    private boolean isKnown(int n) {
        return n >= 0 && n <= factCount;
    }

    private Land landAt(int i) {
        return i >= 0 && i < landCount ? lands[i] : null;
    }

    private Person personAt(int i) {
        return i >= 0 && i < personCount ? persons[i] : null;
    }

    private Series seriesAt(int i) {
        return i >= 0 && i < seriesCount ? rows[i] : null;
    }

    private int meetingCount() {
        int all = 0;
        for (int i = 0; i < seriesCount; i++) {
            for (int week = 0; week < WEEKS; week++) {
                all += rows[i].chosen[week] == NONE ? 0 : 1;
            }
        }
        return all;
    }

    private boolean isShifted(Series s, int start, int n, int m) {
        if (start == NONE) {
            return false;
        }
        int withRole = s.withRole();
        for (int p = 0; p < personCount; p++) {
            Land home = persons[p].home;
            if (isIn(withRole, p) && home.offsetAt(start, n) != home.offsetAt(start, m)) {
                return true;
            }
        }
        return false;
    }

    private void seatLesser(Series s, int week, int n) {
        board.clear();
        for (int i = 0; i < s.number; i++) {
            seat(i, week, n, s.everyone());
        }
    }

    /** Who of some persons comes to what is planned of a series depends on these persons alone. */
    private boolean seat(int i, int week, int n, int who) {
        Series s = rows[i];
        int choice = s.chosen[week];
        if (choice == NONE) {
            return false;
        }
        sheets[i].fill(s, s.optionsOf(choice), week, n, who & s.everyone(), persons);
        seating.seat(s, sheets[i], board, choice);
        board.put(s, sheets[i], seating);
        return true;
    }

    // ---- Classes inside

    /** A fact of one kind about one owner; the chain of them leads to what was told earlier. */
    private static final class Fact {
        final int number;
        final int from;
        final int value;
        final boolean isPrivate;
        final Fact earlier;

        Fact(int number, int from, int value, boolean isPrivate, Fact earlier) {
            this.number = number;
            this.from = from;
            this.value = value;
            this.isPrivate = isPrivate;
            this.earlier = earlier;
        }
    }

    private static final class Land {
        final int firstOffset;
        Fact changes;
        Fact feasts;

        Land(int firstOffset) {
            this.firstOffset = firstOffset;
        }

        int offsetAt(int t, int n) {
            int offset = firstOffset;
            int latest = NONE;
            // The last told comes first in the chain, so one of the same slot behind it never counts.
            for (Fact f = changes; f != null; f = f.earlier) {
                if (f.number < n && f.from <= t && f.from > latest) {
                    latest = f.from;
                    offset = f.value;
                }
            }
            return offset;
        }

        boolean celebrates(int day, int n) {
            for (Fact f = feasts; f != null; f = f.earlier) {
                if (f.number < n && f.from == day) {
                    return true;
                }
            }
            return false;
        }
    }

    private static final class Person {
        final Land home;
        final int off;
        final byte[] cells;
        int cellCount;
        Fact spans;

        Person(Land home, int off) {
            this.home = home;
            this.off = off;
            this.cells = new byte[DAY_SLOTS];
        }

        void clearCells(int n) {
            cellCount = n;
            Arrays.fill(cells, (byte) 0);
        }

        int cellAt(int localTime) {
            if (cellCount == 0) {
                return 0;
            }
            return cells[Math.min(Math.floorMod(localTime, DAY_SLOTS), cellCount - 1)];
        }

        Fact spanAt(int t, int n) {
            for (Fact f = spans; f != null; f = f.earlier) {
                if (f.number < n && f.from <= t && t < f.value) {
                    return f;
                }
            }
            return null;
        }

        int hindrance(int t, int length, int n) {
            for (int k = 0; k < length; k++) {
                int reason = hindranceAt(t + k, n);
                if (reason != 0) {
                    return reason;
                }
            }
            return 0;
        }

        int hindranceAt(int t, int n) {
            int localTime = t + home.offsetAt(t, n);
            int day = Math.floorDiv(localTime, DAY_SLOTS);
            if (cellAt(localTime) == NEVER) {
                return 1;
            }
            if (isIn(off, Math.floorMod(day, WEEKDAYS))) {
                return 2;
            }
            if (home.celebrates(day, n)) {
                return 3;
            }
            return spanAt(t, n) != null ? 4 : 0;
        }

        int price(int t, int length, int n) {
            int all = 0;
            for (int k = 0; k < length; k++) {
                all += Math.max(0, cellAt(t + k + home.offsetAt(t + k, n)));
            }
            return all;
        }
    }

    private static final class Series {
        final int number;
        final int length;
        final Series chain;
        final int chair;
        final int[] slots;
        final int[] byRole;
        final int[] chosen;
        int optionCount;
        Fact cants;

        Series(int number, int length, Series chain, int chair) {
            this.number = number;
            this.length = length;
            this.chain = chain;
            this.chair = chair;
            this.slots = new int[MOST_OPTIONS];
            this.byRole = new int[ROLES];
            this.chosen = new int[WEEKS];
            for (int week = 0; week < WEEKS; week++) {
                this.chosen[week] = NONE;
            }
        }

        boolean isSplit() {
            return chair != NONE;
        }

        int mostWeeks() {
            return isSplit() ? MOST_SPLIT_WEEKS : MOST_PLAN_WEEKS;
        }

        int choices() {
            return isSplit() ? MOST_PAIRS : MOST_OPTIONS;
        }

        int firstOf(int choice) {
            return isSplit() ? FIRST_OF_PAIR[choice] : choice;
        }

        int secondOf(int choice) {
            return isSplit() ? SECOND_OF_PAIR[choice] : NONE;
        }

        boolean has(int choice) {
            return Math.max(firstOf(choice), secondOf(choice)) < optionCount;
        }

        int choiceOf(int i, int j) {
            for (int c = 0; c < choices(); c++) {
                if (has(c) && firstOf(c) == i && secondOf(c) == j) {
                    return c;
                }
            }
            return NONE;
        }

        int optionsOf(int choice) {
            return isSplit() ? 1 << firstOf(choice) | 1 << secondOf(choice) : 1 << choice;
        }

        int allOptions() {
            return (1 << optionCount) - 1;
        }

        int startOf(int option, int week) {
            return option == NONE ? NONE : week * WEEK_SLOTS + slots[option];
        }

        void giveRole(int p, int r) {
            for (int k = 0; k < ROLES; k++) {
                byRole[k] &= ~(1 << p);
            }
            byRole[r] |= 1 << p;
        }

        int withRole() {
            int all = 0;
            for (int k = MUST; k < ROLES; k++) {
                all |= byRole[k];
            }
            return all;
        }

        int chairAlone() {
            return isSplit() ? 1 << chair : 0;
        }

        int everyone() {
            return withRole() | chairAlone();
        }

        boolean hasCant(int p, int week, int n) {
            for (Fact f = cants; f != null; f = f.earlier) {
                if (f.number < n && f.from == p && f.value == week) {
                    return true;
                }
            }
            return false;
        }
    }

    /** What the options of a series are to each person in one week, but for other series' meetings. */
    private static final class Sheet {
        final int[] starts = new int[MOST_OPTIONS];
        final int[] able = new int[MOST_OPTIONS];
        // Only those of the able ones are kept up: nobody else comes.
        final int[] prices = new int[MOST_OPTIONS * MOST_PERSONS];

        void fill(Series s, int options, int week, int n, int who, Person[] persons) {
            for (int option = 0; option < s.optionCount; option++) {
                if (isIn(options, option)) {
                    int start = s.startOf(option, week);
                    boolean isInside = start + s.length <= SLOTS;
                    starts[option] = isInside ? start : NONE;
                    able[option] = 0;
                    for (int p = 0; p < persons.length && isInside; p++) {
                        Person person = persons[p];
                        if (person != null && isIn(who, p) && !s.hasCant(p, week, n)
                                && person.hindrance(start, s.length, n) == 0) {
                            able[option] |= 1 << p;
                            prices[option * MOST_PERSONS + p] = person.price(start, s.length, n);
                        }
                    }
                }
            }
        }
    }

    /** The meetings of one week that stand already, with those who come to them. */
    private static final class Board {
        final int[] from = new int[MOST_HALVES];
        final int[] upTo = new int[MOST_HALVES];
        final int[] who = new int[MOST_HALVES];
        final int[] endOf = new int[MOST_SERIES];
        int size;

        void clear() {
            size = 0;
            Arrays.fill(endOf, 0);
        }

        void put(Series s, Sheet sheet, Seating seating) {
            endOf[s.number] = 0;
            add(s, sheet.starts[seating.first], seating.comesFirst);
            if (seating.second != NONE) {
                add(s, sheet.starts[seating.second], seating.comesSecond);
            }
        }

        private void add(Series s, int start, int comers) {
            endOf[s.number] = Math.max(endOf[s.number], start + s.length);
            if (size < MOST_HALVES) {
                from[size] = start;
                upTo[size] = start + s.length;
                who[size] = comers;
                size++;
            }
        }

        int engaged(int a, int b) {
            int all = 0;
            for (int k = 0; k < size; k++) {
                if (from[k] < b && a < upTo[k]) {
                    all |= who[k];
                }
            }
            return all;
        }
    }

    /** Who is free at a choice of a series, and who comes to which of its options. */
    private static final class Seating {
        int first;
        int second;
        int freeFirst;
        int freeSecond;
        int comesFirst;
        int comesSecond;

        void seat(Series s, Sheet sheet, Board board, int choice) {
            first = s.firstOf(choice);
            second = s.secondOf(choice);
            freeFirst = freeAt(s, sheet, board, first);
            freeSecond = second == NONE ? 0 : freeAt(s, sheet, board, second);
            int eitherWay = freeFirst & freeSecond & ~s.chairAlone();
            int rather = preferSecond(sheet, eitherWay);
            comesFirst = freeFirst & ~rather;
            comesSecond = freeSecond & ~(eitherWay & ~rather);
        }

        private static int freeAt(Series s, Sheet sheet, Board board, int option) {
            int start = sheet.starts[option];
            return sheet.able[option] & ~board.engaged(start, start + s.length);
        }

        private int preferSecond(Sheet sheet, int eitherWay) {
            int all = 0;
            for (int p = 0; p < MOST_PERSONS && eitherWay >> p != 0; p++) {
                if (isIn(eitherWay, p)
                        && sheet.prices[second * MOST_PERSONS + p] < sheet.prices[first * MOST_PERSONS + p]) {
                    all |= 1 << p;
                }
            }
            return all;
        }

        /** Whether there is such a choice at all, whoever may come. */
        static boolean stands(Series s, Sheet sheet, int choice) {
            if (!s.has(choice)) {
                return false;
            }
            int start = sheet.starts[s.firstOf(choice)];
            if (!s.isSplit()) {
                return start != NONE;
            }
            int other = sheet.starts[s.secondOf(choice)];
            return start != NONE && other != NONE && Math.abs(start - other) >= s.length;
        }

        boolean suits(Series s, Sheet sheet, Board board, int choice) {
            if (!stands(s, sheet, choice)) {
                return false;
            }
            seat(s, sheet, board, choice);
            int free = freeFirst | freeSecond;
            if ((s.byRole[MUST] & ~free) != 0 || (s.chairAlone() & ~(freeFirst & freeSecond)) != 0) {
                return false;
            }
            for (int r = FIRST_GROUP; r < ROLES; r++) {
                if (s.byRole[r] != 0 && (s.byRole[r] & free) == 0) {
                    return false;
                }
            }
            return isBehindChain(s, sheet, board);
        }

        private boolean isBehindChain(Series s, Sheet sheet, Board board) {
            if (s.chain == null) {
                return true;
            }
            int end = board.endOf[s.chain.number];
            return end <= sheet.starts[first] && (second == NONE || end <= sheet.starts[second]);
        }

        int priceFor(Sheet sheet, int p) {
            int all = isIn(comesFirst, p) ? sheet.prices[first * MOST_PERSONS + p] : 0;
            return isIn(comesSecond, p) ? all + sheet.prices[second * MOST_PERSONS + p] : all;
        }
    }

    /** Keeps the sums, the greatest first, of the best way seen. */
    private static final class Evener {
        final int[] best = new int[MOST_PERSONS];
        final int[] tried = new int[MOST_PERSONS];
        int size;
        boolean isFound;

        void begin(int persons) {
            size = Math.min(persons, MOST_PERSONS);
            isFound = false;
        }

        /**
         * Costs are never below 0, so what is not better than the best does not become so by further
         * meetings: this cuts a search short, too. The way found first stays among those alike.
         */
        boolean isBetter(int[] sums) {
            if (!isFound) {
                return true;
            }
            System.arraycopy(sums, 0, tried, 0, size);
            for (int k = 0; k < size; k++) {
                bringGreatest(tried, k);
                if (tried[k] != best[k]) {
                    return tried[k] < best[k];
                }
            }
            return false;
        }

        void keep(int[] sums) {
            isFound = true;
            System.arraycopy(sums, 0, best, 0, size);
            for (int k = 0; k < size; k++) {
                bringGreatest(best, k);
            }
        }

        private void bringGreatest(int[] values, int to) {
            int at = to;
            for (int k = to + 1; k < size; k++) {
                if (values[k] > values[at]) {
                    at = k;
                }
            }
            int greatest = values[at];
            values[at] = values[to];
            values[to] = greatest;
        }

        int greatest() {
            return size == 0 ? 0 : best[0];
        }
    }

    /** Looks for the best plan of one series; the choices of a week don't depend on other weeks. */
    private static final class Planner {
        final Evener evener = new Evener();
        final Seating seating = new Seating();
        final int[] best = new int[MOST_PLAN_WEEKS];
        final int[] way = new int[MOST_PLAN_WEEKS];
        final int[] fitting = new int[MOST_PLAN_WEEKS];
        final int[] prices = new int[MOST_PLAN_WEEKS * MOST_PAIRS * MOST_PERSONS];
        final int[] leastFrom = new int[(MOST_PLAN_WEEKS + 1) * MOST_PERSONS];
        final int[] sums = new int[MOST_PERSONS];
        final int[] reached = new int[MOST_PERSONS];
        int weeks;
        int persons;

        void begin(int weekCount, int personCount) {
            weeks = Math.min(weekCount, MOST_PLAN_WEEKS);
            persons = Math.min(personCount, MOST_PERSONS);
            evener.begin(persons);
            Arrays.fill(sums, 0);
        }

        private static int priceAt(int k, int choice) {
            return (k * MOST_PAIRS + choice) * MOST_PERSONS;
        }

        boolean rate(int k, Series s, Sheet sheet, Board board) {
            fitting[k] = 0;
            for (int c = 0; c < s.choices(); c++) {
                if (seating.suits(s, sheet, board, c)) {
                    fitting[k] |= 1 << c;
                    for (int p = 0; p < persons; p++) {
                        prices[priceAt(k, c) + p] = seating.priceFor(sheet, p);
                    }
                }
            }
            return fitting[k] != 0;
        }

        void findBest() {
            Arrays.fill(leastFrom, 0);
            for (int k = weeks - 1; k >= 0; k--) {
                for (int p = 0; p < persons; p++) {
                    leastFrom[k * MOST_PERSONS + p] = leastFrom[(k + 1) * MOST_PERSONS + p] + leastAt(k, p);
                }
            }
            search(0);
        }

        private int leastAt(int k, int p) {
            int least = NONE;
            for (int c = 0; c < MOST_PAIRS; c++) {
                if (isIn(fitting[k], c)) {
                    int price = prices[priceAt(k, c) + p];
                    least = least == NONE ? price : Math.min(least, price);
                }
            }
            return least;
        }

        private void search(int k) {
            for (int p = 0; p < persons; p++) {
                reached[p] = sums[p] + leastFrom[k * MOST_PERSONS + p];
            }
            if (!evener.isBetter(reached)) {
                return;
            }
            if (k >= weeks) {
                evener.keep(sums);
                System.arraycopy(way, 0, best, 0, weeks);
                return;
            }
            for (int c = 0; c < MOST_PAIRS; c++) {
                if (isIn(fitting[k], c)) {
                    way[k] = c;
                    searchBehind(k, priceAt(k, c));
                }
            }
        }

        private void searchBehind(int k, int priceAt) {
            charge(priceAt, 1);
            search(k + 1);
            charge(priceAt, -1);
        }

        private void charge(int at, int sign) {
            for (int p = 0; p < persons; p++) {
                sums[p] += sign * prices[at + p];
            }
        }
    }

    /** Looks for the way of one week that changes the fewest series. */
    private static final class Mover {
        final Evener evener = new Evener();
        final Board board = new Board();
        final Series[] moved = new Series[MOST_SERIES];
        final Sheet[] sheets = new Sheet[MOST_SERIES];
        final Seating[] seatings = new Seating[MOST_SERIES];
        final int[] now = new int[MOST_SERIES];
        final int[] way = new int[MOST_SERIES];
        final int[] best = new int[MOST_SERIES];
        final int[] sums = new int[MOST_PERSONS];
        int size;
        int persons;

        Mover() {
            for (int k = 0; k < MOST_SERIES; k++) {
                seatings[k] = new Seating();
            }
        }

        void begin(int personCount) {
            persons = Math.min(personCount, MOST_PERSONS);
            size = 0;
            board.clear();
            evener.begin(persons);
            Arrays.fill(sums, 0);
        }

        void add(Series s, Sheet sheet, int choice) {
            if (size < MOST_SERIES) {
                moved[size] = s;
                sheets[size] = sheet;
                now[size] = choice;
                size++;
            }
        }

        int findBest() {
            for (int changes = 0; changes <= size; changes++) {
                search(0, changes);
                if (evener.isFound) {
                    return changes;
                }
            }
            return NONE;
        }

        void settle(int week) {
            for (int k = 0; k < size; k++) {
                moved[k].chosen[week] = best[k];
            }
        }

        /** Tries all ways that change just so many of the series from k on. */
        private void search(int k, int changes) {
            if (!evener.isBetter(sums)) {
                return;
            }
            if (k >= size) {
                evener.keep(sums);
                System.arraycopy(way, 0, best, 0, size);
                return;
            }
            for (int c = 0; c < moved[k].choices(); c++) {
                int left = c == now[k] ? changes : changes - 1;
                if (left >= 0 && left < size - k && seatings[k].suits(moved[k], sheets[k], board, c)) {
                    way[k] = c;
                    searchBehind(k, left);
                }
            }
        }

        private void searchBehind(int k, int changes) {
            int mark = board.size;
            board.put(moved[k], sheets[k], seatings[k]);
            charge(k, 1);
            search(k + 1, changes);
            charge(k, -1);
            board.size = mark;
        }

        private void charge(int k, int sign) {
            for (int p = 0; p < persons; p++) {
                sums[p] += sign * seatings[k].priceFor(sheets[k], p);
            }
        }
    }

    /** Finds the least set of persons by whom alone nothing fits. */
    private static final class Blame {
        final Seating seating = new Seating();
        final int[] suspects = new int[MOST_PERSONS];
        final int[] hinders = new int[MOST_PERSONS];
        int size;

        int find(Series s, Sheet sheet, Board board) {
            int standing = 0;
            listSuspects(s);
            for (int c = 0; c < s.choices(); c++) {
                if (Seating.stands(s, sheet, c)) {
                    standing |= 1 << c;
                    seating.seat(s, sheet, board, c);
                    noteHindered(s, c);
                }
            }
            return leastSet(standing);
        }

        private void listSuspects(Series s) {
            int all = s.byRole[MUST] | s.chairAlone();
            size = 0;
            for (int p = 0; p < MOST_PERSONS; p++) {
                if (isIn(all, p)) {
                    suspects[size] = p;
                    hinders[size] = 0;
                    size++;
                }
            }
        }

        private void noteHindered(Series s, int choice) {
            for (int k = 0; k < size; k++) {
                int p = suspects[k];
                int free = p == s.chair
                        ? seating.freeFirst & seating.freeSecond
                        : seating.freeFirst | seating.freeSecond;
                if (!isIn(free, p)) {
                    hinders[k] |= 1 << choice;
                }
            }
        }

        /** The suspect of the least number has the highest bit: of sets alike in size the first is the greatest. */
        private int leastSet(int standing) {
            int least = (1 << size) - 1;
            if (hinderedBy(least) != standing) {
                return 0;
            }
            for (int set = least - 1; set >= 0; set--) {
                if (Integer.bitCount(set) < Integer.bitCount(least) && hinderedBy(set) == standing) {
                    least = set;
                }
            }
            return personsOf(least);
        }

        private int hinderedBy(int set) {
            int all = 0;
            for (int k = 0; k < size; k++) {
                if (isIn(set, size - 1 - k)) {
                    all |= hinders[k];
                }
            }
            return all;
        }

        private int personsOf(int set) {
            int all = 0;
            for (int k = 0; k < size; k++) {
                if (isIn(set, size - 1 - k)) {
                    all |= 1 << suspects[k];
                }
            }
            return all;
        }
    }
}
