/** For each promise of the document its ordinary calls, its edges, and what it refuses. */
public final class PromiseTest {
    private static final int NONE = -1;
    private static final int MIN = Integer.MIN_VALUE;
    private static final int MAX = Integer.MAX_VALUE;
    private static int wrong;
    private static int asked;

    private static void due(int promise, String what, int got, int want) {
        asked++;
        if (got != want) {
            wrong++;
            System.out.println("promise " + promise + ", " + what + ": answered " + got + ", due is " + want);
        }
    }

    private static void due(int promise, String what, boolean got, boolean want) {
        due(promise, what, got ? 1 : 0, want ? 1 : 0);
    }

    public static void main(String[] args) {
        newObject();
        lands();
        persons();
        rows();
        cells();
        changes();
        feasts();
        spansOfBusy();
        cants();
        series();
        options();
        roles();
        localTimes();
        slotsOfLocalTimes();
        canOrNot();
        costs();
        spans();
        fitsOfOptions();
        fitsBesideOthers();
        fitsBehindChain();
        fitsOfPairs();
        fitsOfAllPairs();
        plans();
        plansEvened();
        plansOfPairs();
        stuckOnes();
        stuckOnesOfPairs();
        moves();
        movesOfSeveral();
        movesBySums();
        plannedOnes();
        comers();
        comersToHalves();
        sums();
        shiftedOnes();
        counts();
        System.out.println(asked + " answers, " + wrong + " of them not as due");
        if (wrong != 0) System.exit(1);
    }

    /** One land without offset, and persons in it who can always come and whom nothing costs. */
    private static ClockCall world(int persons) {
        ClockCall x = new ClockCall();
        x.land(0);
        for (int p = 0; p < persons; p++) x.person(0, 0);
        return x;
    }

    private static void giveOptions(ClockCall x, int series, int... slots) {
        for (int t : slots) x.option(series, t);
    }

    private static void price(ClockCall x, int p, int... cellsAndValues) {
        x.row(p, 48);
        for (int k = 0; k < cellsAndValues.length; k += 2) x.cell(p, cellsAndValues[k], cellsAndValues[k + 1]);
    }

    private static void newObject() {
        due(1, "NONE", ClockCall.NONE, -1);
        ClockCall x = new ClockCall();
        for (int what = 0; what < 5; what++) due(1, "count " + what, x.count(what), 0);
        due(1, "no person", x.person(0, 0), NONE);
        due(1, "no row", x.row(0, 1), false);
        due(1, "no cell", x.cell(0, 0, 0), false);
        due(1, "no change", x.change(0, 0, 0), NONE);
        due(1, "no feast", x.feast(0, 0), NONE);
        due(1, "no busy", x.busy(0, 0, 1, false), NONE);
        due(1, "no cant", x.cant(0, 0, 0), NONE);
        due(1, "no option", x.option(0, 0), NONE);
        due(1, "no role", x.role(0, 0, 0), false);
        due(1, "no local", x.local(0, 0, 0, 0), -1000000);
        due(1, "no when", x.when(0, 0, 0, 0, 0), NONE);
        due(1, "no can", x.can(0, 0, 1, 0), NONE);
        due(1, "no cost", x.cost(0, 0, 1, 0), NONE);
        due(1, "no span", x.span(0, 0, 0), NONE);
        due(1, "no fits", x.fits(0, 0, 0, NONE, 0), NONE);
        due(1, "no plan", x.plan(0, 0, 1, 0), -2);
        due(1, "nobody stuck", x.stuck(0), NONE);
        due(1, "nothing to move", x.move(0, 0), 0);
        due(1, "nothing planned", x.planned(0, 0, 0), NONE);
        due(1, "nobody comes", x.comes(0, 0, 0, 0), NONE);
        due(1, "no sum", x.sum(0, 0), NONE);
        due(1, "nothing shifted", x.shifted(0, 0), 0);
        new ClockCall().land(3);
        due(1, "objects are apart", x.count(0), 0);
    }

    private static void lands() {
        ClockCall x = new ClockCall();
        for (int wild : new int[] {-25, 29, MIN, MAX}) due(2, "offset " + wild, x.land(wild), NONE);
        due(2, "nothing happened", x.count(0), 0);
        due(2, "least offset", x.land(-24), 0);
        due(2, "greatest offset", x.land(28), 1);
        due(2, "its offset", x.local(0, 0, 0, 3), -24);
        due(2, "its offset", x.local(1, 0, 0, 3), 28);
        for (int l = 2; l < 8; l++) due(2, "land", x.land(l), l);
        due(2, "a ninth", x.land(0), NONE);
        due(2, "eight stay", x.count(0), 8);
        due(2, "the last", x.local(7, 0, 0, 3), 7);
        due(3, "no ninth land", x.person(8, 0), NONE);
        due(6, "no ninth land", x.change(8, 0, 0), NONE);
        due(7, "no ninth land", x.feast(8, 0), NONE);
        due(13, "no ninth land", x.local(8, 0, 0, 3), -1000000);
        due(14, "no ninth land", x.when(8, 0, 0, 0, 0), NONE);
    }

    private static void persons() {
        ClockCall x = new ClockCall();
        x.land(0);
        for (int wild : new int[] {-1, 1, MIN, MAX}) due(3, "land " + wild, x.person(wild, 0), NONE);
        for (int wild : new int[] {-1, 128, MIN, MAX}) due(3, "off " + wild, x.person(0, wild), NONE);
        due(3, "nothing happened", x.count(1), 0);
        due(3, "always off", x.person(0, 127), 0);
        due(3, "off is off", x.can(0, 0, 1, 0), 2);
        due(3, "never off", x.person(0, 0), 1);
        due(3, "costs missing", x.cost(1, 0, 6, 0), 0);
        due(3, "costs missing, no cell", x.cell(1, 0, 1), false);
        for (int p = 2; p < 12; p++) due(3, "person", x.person(0, 64), p);
        due(3, "a thirteenth", x.person(0, 0), NONE);
        due(3, "twelve stay", x.count(1), 12);
        due(4, "no thirteenth person", x.row(12, 1), false);
        due(8, "no thirteenth person", x.busy(12, 0, 1, false), NONE);
        due(15, "no thirteenth person", x.can(12, 0, 1, 0), NONE);
        due(24, "no thirteenth person", x.sum(12, 0), NONE);
        due(3, "weekday 5", x.can(11, 5 * 48, 1, 0), 0);
        due(3, "weekday 6", x.can(11, 6 * 48, 1, 0), 2);
    }

    private static void rows() {
        ClockCall x = world(1);
        for (int wild : new int[] {-1, 1, MIN, MAX}) due(4, "person " + wild, x.row(wild, 1), false);
        for (int wild : new int[] {0, -2, 49, MIN, MAX}) due(4, "n " + wild, x.row(0, wild), false);
        due(4, "still missing", x.cell(0, 0, 1), false);
        due(4, "48 cells", x.row(0, 48), true);
        due(4, "the last cell", x.cell(0, 47, 7), true);
        due(4, "is there", x.cost(0, 47, 1, 0), 7);
        due(4, "refused", x.row(0, 49), false);
        due(4, "and stays", x.cost(0, 47, 1, 0), 7);
        due(4, "1 cell", x.row(0, 1), true);
        due(4, "is 0", x.cost(0, 47, 1, 0), 0);
        due(4, "no cell 1", x.cell(0, 1, 3), false);
        x.cell(0, 0, 3);
        due(4, "a slot beyond has the last one's", x.cost(0, 47, 1, 0), 3);
        due(4, "missing again", x.row(0, NONE), true);
        due(4, "is all 0", x.cost(0, 0, 6, 0), 0);
        due(4, "has no cell", x.cell(0, 0, 3), false);
        due(4, "two cells", x.row(0, 2), true);
        due(4, "are 0s", x.cost(0, 0, 6, 0), 0);
    }

    private static void cells() {
        ClockCall x = world(1);
        x.row(0, 3);
        for (int wild : new int[] {-1, 1, MIN, MAX}) due(5, "person " + wild, x.cell(wild, 0, 1), false);
        for (int wild : new int[] {-1, 3, MIN, MAX}) due(5, "cell " + wild, x.cell(0, wild, 1), false);
        for (int wild : new int[] {-2, 101, MIN, MAX, 256}) due(5, "value " + wild, x.cell(0, 0, wild), false);
        due(5, "nothing happened", x.cost(0, 0, 3, 0), 0);
        due(5, "the greatest", x.cell(0, 2, 100), true);
        due(5, "counts", x.cost(0, 0, 3, 0), 100);
        due(5, "for all behind it", x.cost(0, 2, 6, 0), 600);
        due(5, "never", x.cell(0, 1, -1), true);
        due(5, "is never", x.can(0, 0, 2, 0), 1);
        due(5, "anew", x.cell(0, 1, 0), true);
        due(5, "is not never", x.can(0, 0, 2, 0), 0);
    }

    private static void changes() {
        ClockCall x = world(1);
        x.land(5);
        for (int wild : new int[] {-1, 2, MIN, MAX}) due(6, "land " + wild, x.change(wild, 0, 0), NONE);
        for (int wild : new int[] {-1, 17472, MIN, MAX}) due(6, "slot " + wild, x.change(0, wild, 0), NONE);
        for (int wild : new int[] {-25, 29, MIN, MAX}) due(6, "offset " + wild, x.change(0, 0, wild), NONE);
        due(6, "nothing happened", x.count(2), 0);
        due(6, "the first", x.change(0, 0, -24), 0);
        due(6, "the last slot", x.change(0, 17471, 28), 1);
        due(6, "another land stays", x.local(1, 17471, 2, 3), 5);
        due(6, "from 0", x.local(0, 0, 2, 3), -24);
        due(6, "up to the next", x.local(0, 17470, 2, 3), -24);
        due(6, "from there", x.local(0, 17471, 2, 3), 28);
        due(6, "told again", x.change(0, 17471, 7), 2);
        due(6, "of the same slot the last told", x.local(0, 17471, 3, 3), 7);
        due(6, "not yet known", x.local(0, 17471, 2, 3), 28);
        due(6, "told late of an early slot", x.change(0, 100, 3), 3);
        due(6, "holds from there", x.local(0, 100, 4, 3), 3);
        due(6, "not ahead", x.local(0, 99, 4, 3), -24);
        due(6, "the later slot stays", x.local(0, 17471, 4, 3), 7);
        for (int f = 4; f < 400; f++) due(6, "fact", x.change(0, f, 1), f);
        due(6, "a 401st change", x.change(0, 0, 0), NONE);
        due(6, "is not there", x.local(0, 0, 400, 3), -24);
        due(7, "a 401st feast", x.feast(0, 0), NONE);
        due(8, "a 401st busy", x.busy(0, 0, 1, false), NONE);
        x.series(1, NONE, NONE);
        due(9, "a 401st cant", x.cant(0, 0, 0), NONE);
        due(6, "400 stay", x.count(2), 400);
        due(6, "all known", x.local(0, 399, 400, 3), 1);
        due(6, "401 are not", x.local(0, 399, 401, 3), -1000000);
    }

    private static void feasts() {
        ClockCall x = new ClockCall();
        x.land(0);
        x.land(-10);
        x.person(0, 0);
        x.person(1, 0);
        for (int wild : new int[] {-1, 2, MIN, MAX}) due(7, "land " + wild, x.feast(wild, 0), NONE);
        for (int wild : new int[] {-1, 364, MIN, MAX}) due(7, "day " + wild, x.feast(0, wild), NONE);
        due(7, "nothing happened", x.count(2), 0);
        due(7, "the first day", x.feast(1, 0), 0);
        due(7, "the last day", x.feast(0, 363), 1);
        due(7, "another land", x.can(0, 0, 1, 2), 0);
        due(7, "local day -1", x.can(1, 9, 1, 2), 0);
        due(7, "local day 0", x.can(1, 10, 1, 2), 3);
        due(7, "its last slot", x.can(1, 57, 1, 2), 3);
        due(7, "local day 1", x.can(1, 58, 1, 2), 0);
        due(7, "day 362", x.can(0, 17423, 1, 2), 0);
        due(7, "day 363", x.can(0, 17424, 1, 2), 3);
        due(7, "not yet known", x.can(0, 17424, 1, 1), 0);
        x.change(1, 0, 0);
        due(7, "the day moves with the clocks", x.can(1, 57, 1, 3), 0);
        due(7, "the day moves with the clocks", x.can(1, 9, 1, 3), 3);
    }

    private static void spansOfBusy() {
        ClockCall x = world(2);
        for (int wild : new int[] {-1, 2, MIN, MAX}) due(8, "person " + wild, x.busy(wild, 0, 1, false), NONE);
        due(8, "a below 0", x.busy(0, -1, 1, false), NONE);
        due(8, "a is b", x.busy(0, 5, 5, false), NONE);
        due(8, "a above b", x.busy(0, 6, 5, false), NONE);
        due(8, "b too great", x.busy(0, 6, 17473, false), NONE);
        due(8, "b far too great", x.busy(0, 6, MAX, false), NONE);
        due(8, "b least", x.busy(0, 0, MIN, false), NONE);
        due(8, "a and b least", x.busy(0, MIN, MIN, true), NONE);
        due(8, "nothing happened", x.count(2), 0);
        due(8, "up to the end", x.busy(0, 17471, 17472, true), 0);
        due(8, "ahead of it", x.can(0, 17470, 1, 1), 0);
        due(8, "in it", x.can(0, 17471, 1, 1), 4);
        due(8, "another person", x.can(1, 17471, 1, 1), 0);
        due(8, "from the start", x.busy(1, 0, 2, false), 1);
        due(8, "in it", x.can(1, 1, 1, 2), 4);
        due(8, "not with b", x.can(1, 2, 1, 2), 0);
        due(8, "not yet known", x.can(1, 1, 1, 1), 0);
        due(8, "the whole time", x.busy(1, 0, 17472, false), 2);
    }

    private static void cants() {
        ClockCall x = world(2);
        x.series(1, NONE, NONE);
        x.series(1, NONE, NONE);
        for (int s = 0; s < 2; s++) {
            x.option(s, 5);
            x.role(s, 0, 1);
        }
        for (int wild : new int[] {-1, 2, MIN, MAX}) due(9, "person " + wild, x.cant(wild, 0, 0), NONE);
        for (int wild : new int[] {-1, 2, MIN, MAX}) due(9, "series " + wild, x.cant(0, wild, 0), NONE);
        for (int wild : new int[] {-1, 52, MIN, MAX}) due(9, "week " + wild, x.cant(0, 0, wild), NONE);
        due(9, "nothing happened", x.count(2), 0);
        due(9, "the last week", x.cant(0, 0, 51), 0);
        due(9, "of one not asked", x.cant(1, 0, 3), 1);
        due(9, "does not fit", x.fits(0, 51, 0, NONE, 2), 0);
        due(9, "another week", x.fits(0, 50, 0, NONE, 2), 1);
        due(9, "another series", x.fits(1, 51, 0, NONE, 2), 1);
        due(9, "another person", x.fits(0, 3, 0, NONE, 2), 1);
        due(9, "not yet known", x.fits(0, 51, 0, NONE, 0), 1);
        due(9, "can is as ahead", x.can(0, 51 * 336 + 5, 1, 2), 0);
    }

    private static void series() {
        ClockCall x = world(1);
        for (int wild : new int[] {0, 7, -1, MIN, MAX}) due(10, "length " + wild, x.series(wild, NONE, NONE), NONE);
        for (int wild : new int[] {0, 1, -2, MIN, MAX}) due(10, "chain " + wild, x.series(1, wild, NONE), NONE);
        for (int wild : new int[] {1, -2, MIN, MAX}) due(10, "chair " + wild, x.series(1, NONE, wild), NONE);
        due(10, "nothing happened", x.count(3), 0);
        due(10, "the first", x.series(1, NONE, NONE), 0);
        due(10, "not its own chain", x.series(1, 1, NONE), NONE);
        due(10, "the longest", x.series(6, 0, 0), 1);
        due(10, "the third", x.series(6, 1, NONE), 2);
        due(10, "the fourth", x.series(2, 0, 0), 3);
        due(10, "a fifth", x.series(1, NONE, NONE), NONE);
        due(10, "four stay", x.count(3), 4);
        due(11, "no fifth series", x.option(4, 0), NONE);
        due(12, "no fifth series", x.role(4, 0, 1), false);
        due(9, "no fifth series", x.cant(0, 4, 0), NONE);
        due(18, "no fifth series", x.fits(4, 0, 0, NONE, 0), NONE);
        due(19, "no fifth series", x.plan(4, 0, 1, 0), -2);
        due(22, "no fifth series", x.planned(4, 0, 0), NONE);
        due(23, "no fifth series", x.comes(0, 4, 0, 0), NONE);
        due(10, "without options", x.fits(0, 0, 0, NONE, 0), NONE);
        x.option(0, 3);
        due(10, "without roles", x.plan(0, 0, 1, 0), 0);
        due(10, "without roles", x.comes(0, 0, 0, 0), 0);
    }

    private static void options() {
        ClockCall x = world(1);
        x.series(1, NONE, NONE);
        x.series(2, NONE, 0);
        for (int wild : new int[] {-1, 2, MIN, MAX}) due(11, "series " + wild, x.option(wild, 0), NONE);
        for (int wild : new int[] {-1, 336, MIN, MAX}) due(11, "slot " + wild, x.option(0, wild), NONE);
        due(11, "none is there", x.fits(0, 0, 0, NONE, 0), NONE);
        due(11, "the least", x.option(0, 0), 0);
        due(11, "the greatest", x.option(0, 335), 1);
        due(11, "the same again", x.option(0, 335), 2);
        due(11, "of the other series", x.option(1, 9), 0);
        for (int o = 3; o < 6; o++) due(11, "option", x.option(0, o), o);
        due(11, "a seventh", x.option(0, 6), NONE);
        due(11, "six are there", x.fits(0, 0, 5, NONE, 0), 1);
        due(11, "and no more", x.fits(0, 0, 6, NONE, 0), NONE);
        x.plan(0, 2, 3, 0);
        due(11, "the first is chosen", x.planned(0, 2, 2), 672);
    }

    private static void roles() {
        ClockCall x = world(2);
        x.series(1, NONE, NONE);
        x.option(0, 5);
        x.busy(1, 5, 6, false);
        for (int wild : new int[] {-1, 1, MIN, MAX}) due(12, "series " + wild, x.role(wild, 0, 1), false);
        for (int wild : new int[] {-1, 2, MIN, MAX}) due(12, "person " + wild, x.role(0, wild, 1), false);
        for (int wild : new int[] {-1, 6, MIN, MAX}) due(12, "role " + wild, x.role(0, 1, wild), false);
        due(12, "nothing happened", x.fits(0, 0, 0, NONE, 1), 1);
        for (int r = 5; r >= 0; r--) {
            due(12, "role " + r, x.role(0, 1, r), true);
            due(12, "fits with role " + r, x.fits(0, 0, 0, NONE, 1), r == 0 || r == 2 ? 1 : 0);
        }
        x.plan(0, 0, 1, 1);
        due(12, "without a role", x.comes(0, 0, 0, 1), 0);
        for (int r = 1; r < 6; r++) {
            x.role(0, 0, r);
            due(12, "comes with role " + r, x.comes(0, 0, 0, 1), 1);
        }
        due(12, "refused", x.role(0, 0, 6), false);
        due(12, "role stays", x.comes(0, 0, 0, 1), 1);
        x.role(0, 0, 0);
        due(12, "none again", x.comes(0, 0, 0, 1), 0);
    }

    private static void localTimes() {
        ClockCall x = new ClockCall();
        x.land(-24);
        x.land(28);
        int no = -1000000;
        for (int wild : new int[] {-1, 2, MIN, MAX}) due(13, "land " + wild, x.local(wild, 0, 0, 0), no);
        for (int wild : new int[] {-1, 17472, MIN, MAX}) due(13, "slot " + wild, x.local(0, wild, 0, 0), no);
        for (int wild : new int[] {-1, 1, MIN, MAX}) due(13, "known " + wild, x.local(0, 0, wild, 0), no);
        for (int wild : new int[] {-1, 4, MIN, MAX}) due(13, "what " + wild, x.local(0, 0, 0, wild), no);
        due(13, "day below 0", x.local(0, 23, 0, 0), -1);
        due(13, "its slot", x.local(0, 23, 0, 1), 47);
        due(13, "its weekday", x.local(0, 23, 0, 2), 6);
        due(13, "day 0", x.local(0, 24, 0, 0), 0);
        due(13, "its slot", x.local(0, 24, 0, 1), 0);
        due(13, "its weekday", x.local(0, 24, 0, 2), 0);
        due(13, "day 364", x.local(1, 17471, 0, 0), 364);
        due(13, "its slot", x.local(1, 17471, 0, 1), 27);
        due(13, "its weekday", x.local(1, 17471, 0, 2), 0);
        due(13, "weekday 3", x.local(1, 10 * 48, 0, 2), 3);
        due(13, "offset", x.local(1, 17471, 0, 3), 28);
    }

    private static void slotsOfLocalTimes() {
        ClockCall x = new ClockCall();
        x.land(-24);
        x.land(28);
        for (int wild : new int[] {-1, 2, MIN, MAX}) due(14, "land " + wild, x.when(wild, 0, 0, 0, 0), NONE);
        for (int wild : new int[] {-2, 365, MIN, MAX}) due(14, "day " + wild, x.when(0, wild, 0, 0, 0), NONE);
        for (int wild : new int[] {-1, 48, MIN, MAX}) due(14, "slot " + wild, x.when(0, 0, wild, 0, 0), NONE);
        for (int wild : new int[] {-1, 1, MIN, MAX}) due(14, "known " + wild, x.when(0, 0, 0, wild, 0), NONE);
        for (int wild : new int[] {-1, 3, MIN, MAX}) due(14, "what " + wild, x.when(0, 0, 0, 0, wild), NONE);
        due(14, "the first slot", x.when(0, -1, 24, 0, 1), 0);
        due(14, "ahead of it", x.when(0, -1, 23, 0, 0), 0);
        due(14, "ahead of it", x.when(0, -1, 23, 0, 1), NONE);
        due(14, "the last slot", x.when(1, 364, 27, 0, 2), 17471);
        due(14, "behind it", x.when(1, 364, 28, 0, 0), 0);
        due(14, "behind it", x.when(1, 364, 28, 0, 2), NONE);
        // From 28 back to -24 at slot 480: local 480 to 507 is told by slots 452 to 479 and 504 to 531.
        x.change(1, 480, -24);
        due(14, "twice", x.when(1, 10, 0, 1, 0), 2);
        due(14, "the first", x.when(1, 10, 0, 1, 1), 452);
        due(14, "the last", x.when(1, 10, 0, 1, 2), 504);
        due(14, "the last told twice", x.when(1, 10, 27, 1, 0), 2);
        due(14, "told once", x.when(1, 10, 28, 1, 0), 1);
        due(14, "once, as known ahead", x.when(1, 10, 0, 0, 0), 1);
        // From -24 on to 28 at slot 960: local 936 to 987 is not told.
        x.change(0, 960, 28);
        due(14, "the last ahead of the gap", x.when(0, 19, 23, 2, 1), 959);
        due(14, "not at all", x.when(0, 19, 24, 2, 0), 0);
        due(14, "not at all", x.when(0, 20, 27, 2, 2), NONE);
        due(14, "the first behind the gap", x.when(0, 20, 28, 2, 2), 960);
        // A change of one slot alone: local 1988 is told by slot 1960, and by slot 2000 once more.
        x.change(0, 2000, -12);
        x.change(0, 2001, 28);
        due(14, "twice by one slot", x.when(0, 41, 20, 4, 0), 2);
        due(14, "the first", x.when(0, 41, 20, 4, 1), 1960);
        due(14, "the last", x.when(0, 41, 20, 4, 2), 2000);
    }

    private static void canOrNot() {
        ClockCall x = new ClockCall();
        x.land(0);
        x.person(0, 2);
        x.row(0, 48);
        x.cell(0, 10, -1);
        for (int wild : new int[] {-1, 1, MIN, MAX}) due(15, "person " + wild, x.can(wild, 0, 1, 0), NONE);
        for (int wild : new int[] {-1, 17472, MIN, MAX}) due(15, "slot " + wild, x.can(0, wild, 1, 0), NONE);
        for (int wild : new int[] {-1, 0, 7, MIN, MAX}) due(15, "length " + wild, x.can(0, 0, wild, 0), NONE);
        for (int wild : new int[] {-1, 1, MIN, MAX}) due(15, "known " + wild, x.can(0, 0, 1, wild), NONE);
        due(15, "up to the end", x.can(0, 17466, 6, 0), 0);
        due(15, "beyond the end", x.can(0, 17467, 6, 0), NONE);
        due(15, "never", x.can(0, 5, 6, 0), 1);
        due(15, "up to it", x.can(0, 5, 5, 0), 0);
        due(15, "off", x.can(0, 47, 2, 0), 2);
        x.feast(0, 1);
        x.feast(0, 2);
        x.busy(0, 90, 120, false);
        due(15, "off ahead of feast", x.can(0, 48, 1, 3), 2);
        due(15, "never ahead of off", x.can(0, 58, 1, 3), 1);
        due(15, "feast ahead of busy", x.can(0, 96, 1, 3), 3);
        due(15, "the first slot's", x.can(0, 95, 2, 3), 2);
        x.busy(0, 3, 4, true);
        due(15, "busy", x.can(0, 3, 1, 4), 4);
        due(15, "the first slot's, not the first reason", x.can(0, 3, 6, 4), 4);
        due(15, "not yet known", x.can(0, 3, 6, 3), 0);
        x.change(0, 300, 5);
        due(15, "by the clocks of each slot", x.can(0, 298, 2, 5), 1);
        due(15, "by the clocks of each slot", x.can(0, 299, 1, 5), 0);
    }

    private static void costs() {
        ClockCall x = world(2);
        x.row(0, 3);
        x.cell(0, 0, 1);
        x.cell(0, 1, -1);
        x.cell(0, 2, 10);
        for (int wild : new int[] {-1, 2, MIN, MAX}) due(16, "person " + wild, x.cost(wild, 0, 1, 0), NONE);
        for (int wild : new int[] {-1, 17472, MIN, MAX}) due(16, "slot " + wild, x.cost(0, wild, 1, 0), NONE);
        for (int wild : new int[] {-1, 0, 7, MIN, MAX}) due(16, "length " + wild, x.cost(0, 0, wild, 0), NONE);
        for (int wild : new int[] {-1, 1, MIN, MAX}) due(16, "known " + wild, x.cost(0, 0, 1, wild), NONE);
        due(16, "beyond the end", x.cost(0, 17471, 2, 0), NONE);
        due(16, "the end", x.cost(0, 17471, 1, 0), 10);
        due(16, "a never counts 0", x.cost(0, 0, 3, 0), 11);
        due(16, "beyond the row", x.cost(0, 2, 6, 0), 60);
        due(16, "over midnight", x.cost(0, 46, 4, 0), 21);
        due(16, "missing", x.cost(1, 0, 6, 0), 0);
        x.change(0, 2, -2);
        due(16, "by the clocks of each slot", x.cost(0, 0, 5, 1), 1 + 0 + 1 + 0 + 10);
        due(16, "as known ahead", x.cost(0, 0, 5, 0), 31);
        x.busy(0, 0, 10, false);
        due(16, "busy or not", x.cost(0, 0, 5, 2), 12);
    }

    private static void spans() {
        ClockCall x = world(2);
        x.busy(0, 10, 20, false);
        x.busy(0, 15, 16, true);
        x.busy(1, 0, 100, false);
        x.busy(0, 15, 30, false);
        for (int wild : new int[] {-1, 2, MIN, MAX}) due(17, "person " + wild, x.span(wild, 15, 4), NONE);
        for (int wild : new int[] {-1, 17472, MIN, MAX}) due(17, "slot " + wild, x.span(0, wild, 4), NONE);
        for (int wild : new int[] {-1, 5, MIN, MAX}) due(17, "known " + wild, x.span(0, 15, wild), NONE);
        due(17, "the latest told", x.span(0, 15, 4), 3);
        due(17, "is private", x.span(0, 15, 3), -2);
        due(17, "is private", x.span(0, 15, 2), -2);
        due(17, "the first", x.span(0, 15, 1), 0);
        due(17, "none known", x.span(0, 15, 0), NONE);
        due(17, "ahead", x.span(0, 9, 4), NONE);
        due(17, "its start", x.span(0, 10, 4), 0);
        due(17, "its last", x.span(0, 29, 4), 3);
        due(17, "its end", x.span(0, 30, 4), NONE);
        due(17, "another's", x.span(1, 15, 4), 2);
    }

    private static void fitsOfOptions() {
        ClockCall x = world(4);
        x.series(2, NONE, NONE);
        giveOptions(x, 0, 10, 335);
        for (int wild : new int[] {-1, 1, MIN, MAX}) due(18, "series " + wild, x.fits(wild, 0, 0, NONE, 0), NONE);
        for (int wild : new int[] {-1, 52, MIN, MAX}) due(18, "week " + wild, x.fits(0, wild, 0, NONE, 0), NONE);
        for (int wild : new int[] {-1, 2, MIN, MAX}) due(18, "option " + wild, x.fits(0, 0, wild, NONE, 0), NONE);
        for (int wild : new int[] {-2, 0, 1, MIN, MAX}) due(18, "second " + wild, x.fits(0, 0, 0, wild, 0), NONE);
        for (int wild : new int[] {-1, 1, MIN, MAX}) due(18, "known " + wild, x.fits(0, 0, 0, NONE, wild), NONE);
        due(18, "nobody asked", x.fits(0, 0, 0, NONE, 0), 1);
        due(18, "into the next week", x.fits(0, 50, 1, NONE, 0), 1);
        due(18, "beyond the 52 weeks", x.fits(0, 51, 1, NONE, 0), 0);
        x.role(0, 0, 1);
        x.role(0, 1, 2);
        x.role(0, 2, 3);
        x.role(0, 3, 3);
        x.busy(1, 0, 17472, false);
        due(18, "one who may", x.fits(0, 0, 0, NONE, 1), 1);
        x.busy(2, 0, 17472, false);
        due(18, "one of a group", x.fits(0, 0, 0, NONE, 2), 1);
        x.role(0, 3, 4);
        due(18, "groups are apart", x.fits(0, 0, 0, NONE, 2), 0);
        x.role(0, 3, 3);
        x.cant(3, 0, 7);
        due(18, "all of a group", x.fits(0, 7, 0, NONE, 3), 0);
        x.busy(0, 11, 12, false);
        due(18, "one who must, in the last slot", x.fits(0, 0, 0, NONE, 4), 0);
        due(18, "another week", x.fits(0, 1, 0, NONE, 4), 1);
        due(18, "not yet known", x.fits(0, 0, 0, NONE, 3), 1);
    }

    private static void fitsBesideOthers() {
        ClockCall x = world(3);
        x.series(3, NONE, NONE);
        giveOptions(x, 0, 10);
        x.role(0, 0, 2);
        x.role(0, 1, 1);
        x.series(2, NONE, NONE);
        giveOptions(x, 1, 8, 9, 12, 13);
        x.role(1, 0, 1);
        for (int o = 0; o < 4; o++) due(18, "nothing planned " + o, x.fits(1, 0, o, NONE, 0), 1);
        x.plan(0, 0, 1, 0);
        due(18, "ends as it begins", x.fits(1, 0, 0, NONE, 0), 1);
        due(18, "in common", x.fits(1, 0, 1, NONE, 0), 0);
        due(18, "in common", x.fits(1, 0, 2, NONE, 0), 0);
        due(18, "begins as it ends", x.fits(1, 0, 3, NONE, 0), 1);
        due(18, "another week", x.fits(1, 1, 1, NONE, 0), 1);
        x.cant(0, 0, 0);
        due(18, "does not come to that", x.fits(1, 0, 1, NONE, 1), 1);
        x.role(1, 2, 1);
        due(18, "one who is in it alone", x.fits(1, 0, 1, NONE, 1), 1);
        x.role(1, 1, 5);
        due(18, "a group engaged", x.fits(1, 0, 1, NONE, 1), 0);
        x.role(1, 2, 5);
        due(18, "one of a group engaged", x.fits(1, 0, 1, NONE, 1), 1);
        x.plan(1, 0, 1, 1);
        due(18, "a greater series does not hinder", x.fits(0, 0, 0, NONE, 1), 1);
        // Into the next week: only what is planned in that week hinders.
        ClockCall y = world(1);
        y.series(6, NONE, NONE);
        y.series(1, NONE, NONE);
        y.option(0, 335);
        y.option(1, 0);
        y.role(0, 0, 1);
        y.role(1, 0, 1);
        y.plan(0, 0, 1, 0);
        due(18, "a meeting of the week ahead", y.fits(1, 1, 0, NONE, 0), 1);
        // Who is engaged in series 0 is free of series 1, and so comes to series 2.
        ClockCall z = world(1);
        for (int s = 0; s < 3; s++) {
            z.series(2, NONE, NONE);
            z.option(s, 10 + s);
            z.role(s, 0, 2);
            z.plan(s, 0, 1, 0);
        }
        due(18, "not to the second", z.comes(0, 1, 0, 0), 0);
        due(18, "so to the third", z.comes(0, 2, 0, 0), 1);
    }

    private static void fitsBehindChain() {
        ClockCall x = world(1);
        x.series(2, NONE, 0);
        giveOptions(x, 0, 20, 10);
        x.series(1, 0, NONE);
        giveOptions(x, 1, 9, 15, 21, 22);
        x.series(2, 1, 0);
        giveOptions(x, 2, 30, 14, 16, 8);
        for (int o = 0; o < 4; o++) due(18, "chain not planned " + o, x.fits(1, 0, o, NONE, 0), 1);
        due(18, "the chain", x.plan(0, 0, 1, 0), 0);
        due(18, "ahead of it", x.fits(1, 0, 0, NONE, 0), 0);
        due(18, "between its halves", x.fits(1, 0, 1, NONE, 0), 0);
        due(18, "in it", x.fits(1, 0, 2, NONE, 0), 0);
        due(18, "as it ends", x.fits(1, 0, 3, NONE, 0), 1);
        due(18, "another week", x.fits(1, 1, 0, NONE, 0), 1);
        x.plan(1, 1, 2, 0);
        due(18, "of week 1", x.planned(1, 1, 2), 336 + 9);
        due(18, "both halves behind", x.fits(2, 1, 0, 1, 0), 1);
        due(18, "the second half ahead", x.fits(2, 1, 0, 3, 0), 0);
        due(18, "both halves behind", x.fits(2, 1, 1, 2, 0), 1);
        due(18, "the chain's chain is none", x.fits(2, 0, 2, 3, 0), 1);
        x.series(1, 1, NONE);
        x.option(3, 0);
        due(18, "the first slot of all, the chain not planned", x.fits(3, 0, 0, NONE, 0), 1);
        due(18, "the first slot of a week, the chain planned", x.fits(3, 1, 0, NONE, 0), 0);
    }

    private static void fitsOfPairs() {
        ClockCall x = world(3);
        x.series(2, NONE, 2);
        giveOptions(x, 0, 10, 11, 12, 334, 335);
        due(18, "no second", x.fits(0, 0, 0, NONE, 0), NONE);
        due(18, "the same", x.fits(0, 0, 0, 0, 0), NONE);
        due(18, "the wrong way", x.fits(0, 0, 2, 0, 0), NONE);
        due(18, "no such second", x.fits(0, 0, 0, 5, 0), NONE);
        due(18, "no such first", x.fits(0, 0, -1, 0, 0), NONE);
        due(18, "a slot in common", x.fits(0, 0, 0, 1, 0), 0);
        due(18, "side by side", x.fits(0, 0, 0, 2, 0), 1);
        due(18, "up to the end", x.fits(0, 51, 0, 3, 0), 1);
        due(18, "beyond the end", x.fits(0, 51, 0, 4, 0), 0);
        x.role(0, 0, 1);
        x.role(0, 1, 4);
        x.busy(0, 10, 11, false);
        x.busy(1, 13, 14, false);
        due(18, "each in one of both", x.fits(0, 0, 0, 2, 2), 1);
        x.busy(1, 11, 12, false);
        due(18, "a group in none", x.fits(0, 0, 0, 2, 3), 0);
        x.role(0, 1, 2);
        due(18, "one who may", x.fits(0, 0, 0, 2, 3), 1);
        x.busy(0, 12, 13, false);
        due(18, "one who must in none", x.fits(0, 0, 0, 2, 4), 0);
        x.role(0, 0, 0);
        due(18, "no role", x.fits(0, 0, 0, 2, 4), 1);
        x.busy(2, 13, 14, false);
        due(18, "the chair in one alone", x.fits(0, 0, 0, 2, 5), 0);
        due(18, "the chair in both", x.fits(0, 0, 0, 3, 5), 1);
    }

    private static void fitsOfAllPairs() {
        ClockCall x = world(12);
        x.series(1, NONE, 11);
        giveOptions(x, 0, 10, 20, 30, 40, 50, 60);
        for (int i = 0; i < 6; i++) {
            for (int j = 0; j < 6; j++) {
                due(18, "pair " + i + " " + j, x.fits(0, 0, i, j, 0), i < j ? 1 : NONE);
            }
        }
        // All but two are too dear for the chair: the plan has to come to each pair once.
        for (int i = 0; i < 5; i++) {
            for (int j = i + 1; j < 6; j++) {
                x.row(11, 48);
                for (int o = 0; o < 6; o++) x.cell(11, (10 + 10 * o) % 48, o == i || o == j ? 1 : 50);
                due(19, "cheapest pair " + i + " " + j, x.plan(0, 0, 1, 0), 2);
                due(22, "first of " + i + " " + j, x.planned(0, 0, 0), i);
                due(22, "second of " + i + " " + j, x.planned(0, 0, 1), j);
                due(22, "slot of the first", x.planned(0, 0, 2), 10 + 10 * i);
                due(22, "slot of the second", x.planned(0, 0, 3), 10 + 10 * j);
            }
        }
    }

    private static void plans() {
        ClockCall x = world(2);
        x.series(1, NONE, NONE);
        giveOptions(x, 0, 10, 11);
        x.series(1, NONE, 0);
        giveOptions(x, 1, 20, 21);
        for (int wild : new int[] {-1, 2, MIN, MAX}) due(19, "series " + wild, x.plan(wild, 0, 1, 0), -2);
        for (int wild : new int[] {-1, 1, MIN, MAX}) due(19, "known " + wild, x.plan(0, 0, 1, wild), -2);
        for (int wild : new int[] {-1, 1, 2, MIN, MAX}) due(19, "from " + wild, x.plan(0, wild, 1, 0), -2);
        for (int wild : new int[] {0, -1, 7, 53, MIN, MAX}) due(19, "up to " + wild, x.plan(0, 0, wild, 0), -2);
        due(19, "up to 53", x.plan(0, 50, 53, 0), -2);
        due(19, "five weeks of pairs", x.plan(1, 0, 5, 0), -2);
        due(19, "nothing happened", x.count(4), 0);
        due(19, "six weeks", x.plan(0, 46, 52, 0), 0);
        due(19, "are planned", x.count(4), 6);
        due(19, "four weeks of pairs", x.plan(1, 0, 4, 0), 0);
        due(19, "are planned", x.count(4), 10);
        due(19, "without options", x.series(1, NONE, NONE), 2);
        due(19, "nothing fits", x.plan(2, 0, 1, 0), NONE);
        due(19, "nobody is stuck", x.stuck(0), NONE);
        price(x, 0, 10, 4, 11, 3);
        x.role(0, 0, 1);
        due(19, "the lesser cost, in place of what was", x.plan(0, 50, 52, 0), 6);
        due(19, "anew", x.planned(0, 51, 0), 1);
        due(19, "other weeks stay", x.planned(0, 49, 0), 0);
        due(19, "as many as ahead", x.count(4), 10);
        x.busy(0, 51 * 336 + 11, 51 * 336 + 12, false);
        due(19, "as known ahead", x.plan(0, 50, 52, 0), 6);
        due(19, "as known", x.plan(0, 50, 52, 1), 7);
        due(19, "week 50", x.planned(0, 50, 0), 1);
        due(19, "week 51", x.planned(0, 51, 0), 0);
        x.busy(0, 51 * 336, 52 * 336, false);
        due(19, "nothing fits in one", x.plan(0, 50, 52, 2), NONE);
        due(19, "nothing happened", x.planned(0, 51, 0), 0);
        due(19, "nothing happened", x.planned(0, 50, 0), 1);
        ClockCall z = world(1);
        z.series(1, NONE, NONE);
        z.option(0, 5);
        z.role(0, 0, 1);
        price(z, 0, 5, 100);
        due(19, "one person, six weeks", z.plan(0, 0, 6, 0), 600);
        ClockCall y = new ClockCall();
        y.series(1, NONE, NONE);
        y.option(0, 0);
        due(19, "without persons", y.plan(0, 0, 6, 0), 0);
        due(19, "without persons", y.count(4), 6);
    }

    private static void plansEvened() {
        // The greatest first: 3 and 3 are better than 4 and 0, though more in all.
        ClockCall x = world(2);
        x.series(1, NONE, NONE);
        giveOptions(x, 0, 10, 11);
        x.role(0, 0, 1);
        x.role(0, 1, 2);
        price(x, 0, 10, 4, 11, 3);
        price(x, 1, 11, 3);
        due(19, "the greatest least", x.plan(0, 0, 1, 0), 3);
        due(19, "the greatest least", x.planned(0, 0, 0), 1);
        x.cell(0, 11, 4);
        due(19, "of alike ones the second", x.plan(0, 0, 1, 0), 4);
        due(19, "of alike ones the second", x.planned(0, 0, 0), 0);
        x.cell(1, 11, 0);
        x.cell(0, 11, 4);
        due(19, "of alike ones the first option", x.plan(0, 0, 3, 0), 12);
        for (int w = 0; w < 3; w++) due(19, "week " + w, x.planned(0, w, 0), 0);
        // Over two weeks: by turns, the first week the first option.
        ClockCall y = world(3);
        y.series(1, NONE, NONE);
        giveOptions(y, 0, 10, 11, 12);
        for (int p = 0; p < 3; p++) {
            y.role(0, p, 2);
            price(y, p, 10 + p, 5, 10 + (p + 1) % 3, 1);
        }
        due(19, "each one's turn", y.plan(0, 3, 6, 0), 6);
        for (int w = 0; w < 3; w++) due(19, "week " + w, y.planned(0, 3 + w, 0), w);
        for (int p = 0; p < 3; p++) due(19, "sum " + p, y.sum(p, 0), 6);
        due(19, "a plan is by itself", y.plan(0, 6, 7, 0), 5);
        due(19, "a plan is by itself", y.planned(0, 6, 0), 0);
        // Who can't come is not charged.
        y.cant(0, 0, 6);
        due(19, "5 for nobody", y.plan(0, 6, 7, 1), 1);
        due(19, "5 for nobody", y.planned(0, 6, 0), 0);
        // Other series' costs don't count.
        y.series(1, NONE, NONE);
        giveOptions(y, 1, 11, 20);
        y.role(1, 1, 1);
        due(19, "nothing but its own", y.plan(1, 3, 4, 1), 0);
        due(19, "nothing but its own", y.planned(1, 3, 0), 1);
    }

    private static void plansOfPairs() {
        ClockCall x = world(3);
        x.series(1, NONE, 0);
        giveOptions(x, 0, 10, 11, 12);
        x.role(0, 1, 1);
        x.role(0, 2, 2);
        due(19, "the first pair", x.plan(0, 0, 1, 0), 0);
        due(19, "the first", x.planned(0, 0, 0), 0);
        due(19, "the second", x.planned(0, 0, 1), 1);
        price(x, 1, 10, 9, 11, 9, 12, 2);
        due(19, "by the half that costs less", x.plan(0, 0, 1, 0), 2);
        due(19, "by i first", x.planned(0, 0, 0), 0);
        due(19, "then j", x.planned(0, 0, 1), 2);
        price(x, 0, 10, 3, 12, 1);
        due(19, "the chair pays for both", x.plan(0, 0, 1, 0), 2);
        due(19, "the chair pays for both", x.planned(0, 0, 0), 1);
        due(19, "the chair pays for both", x.planned(0, 0, 1), 2);
        due(19, "the sum of the chair", x.sum(0, 0), 1);
        due(19, "the sum of the other", x.sum(1, 0), 2);
        x.busy(1, 336 + 12, 336 + 13, false);
        due(19, "over two weeks", x.plan(0, 0, 2, 1), 11);
        due(19, "week 1", x.planned(0, 1, 0), 1);
        due(19, "week 1", x.planned(0, 1, 1), 2);
    }

    private static void stuckOnes() {
        ClockCall x = world(6);
        x.series(1, NONE, NONE);
        giveOptions(x, 0, 10, 11, 12);
        for (int p = 0; p < 5; p++) x.role(0, p, 1);
        x.role(0, 5, 3);
        // Week 0: 0 hinders the first, 1 the first two, 2 the third, 3 the second and the third.
        x.busy(0, 10, 11, false);
        x.busy(1, 10, 12, false);
        x.busy(2, 12, 13, false);
        x.busy(3, 11, 13, false);
        due(20, "nobody yet", x.stuck(0), NONE);
        due(19, "nothing fits", x.plan(0, 0, 1, 4), NONE);
        due(20, "the fewest, the first of them", x.stuck(0), 0);
        due(20, "the fewest, the first of them", x.stuck(1), 3);
        due(20, "no more", x.stuck(2), NONE);
        for (int wild : new int[] {-1, 12, MIN, MAX}) due(20, "i " + wild, x.stuck(wild), NONE);
        due(19, "as known ahead", x.plan(0, 0, 1, 3), NONE);
        due(20, "as known ahead", x.stuck(0), 1);
        due(20, "as known ahead", x.stuck(1), 2);
        due(19, "refused", x.plan(0, 0, 0, 3), -2);
        due(20, "stays", x.stuck(1), 2);
        x.move(0, 4);
        due(20, "a move leaves them", x.stuck(1), 2);
        x.cant(4, 0, 0);
        due(19, "nothing fits", x.plan(0, 0, 1, 5), NONE);
        due(20, "one alone", x.stuck(0), 4);
        due(20, "one alone", x.stuck(1), NONE);
        due(19, "found", x.plan(0, 1, 2, 5), 0);
        due(20, "nobody then", x.stuck(0), NONE);
        x.cant(5, 0, 2);
        x.cant(3, 0, 3);
        due(19, "by a group", x.plan(0, 1, 4, 7), NONE);
        due(20, "of the first such week: nobody", x.stuck(0), NONE);
        due(19, "by one who must", x.plan(0, 3, 5, 7), NONE);
        due(20, "that one", x.stuck(0), 3);
        // By the chain nobody is stuck; by another meeting one is.
        ClockCall y = world(2);
        y.series(1, NONE, NONE);
        y.option(0, 20);
        y.role(0, 1, 2);
        y.series(1, 0, NONE);
        y.option(1, 19);
        y.role(1, 1, 1);
        y.plan(0, 0, 1, 0);
        due(19, "ahead of the chain", y.plan(1, 0, 1, 0), NONE);
        due(20, "nobody is stuck", y.stuck(0), NONE);
        y.series(1, NONE, NONE);
        y.option(2, 20);
        y.role(2, 0, 1);
        y.role(2, 1, 1);
        due(19, "engaged", y.plan(2, 0, 1, 0), NONE);
        due(20, "who is engaged", y.stuck(0), 1);
        due(20, "who is engaged", y.stuck(1), NONE);
        // Twelve who all must, each of six pairs of them for one option.
        ClockCall v = world(12);
        v.series(1, NONE, NONE);
        giveOptions(v, 0, 10, 11, 12, 13, 14, 15);
        for (int p = 0; p < 12; p++) {
            v.role(0, p, 1);
            v.busy(p, 10 + p % 6, 11 + p % 6, false);
        }
        due(19, "all six are hindered", v.plan(0, 0, 1, 12), NONE);
        for (int i = 0; i < 7; i++) due(20, "the first six", v.stuck(i), i < 6 ? i : NONE);
        v.busy(11, 10, 13, false);
        due(19, "all six are hindered", v.plan(0, 0, 1, 13), NONE);
        for (int i = 0; i < 4; i++) due(20, "three and the last", v.stuck(i), i < 2 ? 3 + i : i == 2 ? 11 : NONE);
        // Without any option inside the weeks nobody is needed for it.
        ClockCall z = world(1);
        z.series(2, NONE, NONE);
        z.option(0, 335);
        z.role(0, 0, 1);
        z.cant(0, 0, 51);
        due(19, "beyond the weeks", z.plan(0, 51, 52, 1), NONE);
        due(20, "nobody is needed", z.stuck(0), NONE);
    }

    private static void stuckOnesOfPairs() {
        ClockCall x = world(4);
        x.series(1, NONE, 3);
        giveOptions(x, 0, 10, 11, 12);
        x.role(0, 0, 1);
        x.role(0, 1, 2);
        x.role(0, 2, 1);
        // 0 has but the first, 2 but the second and the third: every pair with the first suits both.
        x.busy(0, 11, 13, false);
        x.busy(2, 10, 11, false);
        due(19, "the pair of the first and the second", x.plan(0, 0, 1, 2), 0);
        due(20, "nobody", x.stuck(0), NONE);
        x.busy(3, 10, 11, false);
        due(19, "the chair has not the first", x.plan(0, 0, 1, 3), NONE);
        due(20, "with 0 alone", x.stuck(0), 0);
        due(20, "and the chair", x.stuck(1), 3);
        due(20, "no more", x.stuck(2), NONE);
        x.busy(3, 12, 13, false);
        due(19, "the chair has but the second", x.plan(0, 0, 1, 4), NONE);
        due(20, "the chair alone", x.stuck(0), 3);
        due(20, "the chair alone", x.stuck(1), NONE);
        x.role(0, 3, 1);
        due(19, "the chair who must", x.plan(0, 0, 1, 4), NONE);
        due(20, "is needed in both all the same", x.stuck(0), 3);
    }

    private static void moves() {
        ClockCall x = world(2);
        x.series(1, NONE, NONE);
        giveOptions(x, 0, 10, 11, 12);
        x.role(0, 0, 1);
        for (int wild : new int[] {-1, 52, MIN, MAX}) due(21, "week " + wild, x.move(wild, 0), -2);
        for (int wild : new int[] {-1, 1, MIN, MAX}) due(21, "known " + wild, x.move(0, wild), -2);
        due(21, "nothing planned", x.move(0, 0), 0);
        due(21, "nothing happened", x.count(4), 0);
        x.plan(0, 0, 2, 0);
        price(x, 0, 10, 9, 11, 3, 12, 2);
        due(21, "what fits stays, whatever it costs", x.move(0, 0), 0);
        due(21, "it stays", x.planned(0, 0, 0), 0);
        x.busy(0, 10, 11, false);
        due(21, "as known ahead", x.move(0, 0), 0);
        due(21, "the least cost", x.move(0, 1), 1);
        due(21, "the least cost", x.planned(0, 0, 0), 2);
        due(21, "another week stays", x.planned(0, 1, 0), 0);
        x.busy(0, 0, 336, false);
        due(21, "none", x.move(0, 2), NONE);
        due(21, "nothing happened", x.planned(0, 0, 0), 2);
    }

    private static void movesOfSeveral() {
        // Series 0 has to leave slot 10; to 11, which is dearer, so that series 1 can stay at 12.
        ClockCall x = world(2);
        for (int s = 0; s < 2; s++) {
            x.series(1, NONE, NONE);
            x.role(s, 0, 1);
        }
        giveOptions(x, 0, 10, 12, 11);
        giveOptions(x, 1, 12, 13);
        x.plan(0, 0, 1, 0);
        x.plan(1, 0, 1, 0);
        price(x, 0, 11, 50);
        x.cant(0, 0, 9);
        x.busy(0, 10, 11, false);
        due(21, "the fewest others", x.move(0, 2), 1);
        due(21, "series 0", x.planned(0, 0, 0), 2);
        due(21, "series 1", x.planned(1, 0, 0), 0);
        x.busy(0, 11, 12, true);
        due(21, "both", x.move(0, 3), 2);
        due(21, "series 0", x.planned(0, 0, 0), 1);
        due(21, "series 1", x.planned(1, 0, 0), 1);
        // One of two has to give way: the sums of the week tell which, and else series 0 keeps its lesser option.
        ClockCall y = world(2);
        y.series(1, NONE, NONE);
        giveOptions(y, 0, 10, 14);
        y.series(1, NONE, NONE);
        giveOptions(y, 1, 10, 15);
        y.role(0, 1, 2);
        y.role(1, 1, 2);
        y.plan(0, 0, 1, 0);
        y.plan(1, 0, 1, 0);
        due(21, "who may come to one alone", y.comes(1, 1, 0, 0), 0);
        y.role(0, 0, 1);
        y.role(1, 0, 1);
        due(21, "one of both", y.move(0, 0), 1);
        due(21, "series 0 keeps the first", y.planned(0, 0, 0), 0);
        due(21, "series 1 has the other", y.planned(1, 0, 0), 1);
        y.plan(1, 2, 3, 0);
        due(21, "series 1 alone is planned there", y.move(2, 0), 0);
        due(21, "series 0 stays without", y.planned(0, 2, 0), NONE);
        // The chain goes along: series 1 has to follow series 0.
        ClockCall z = world(1);
        z.series(1, NONE, NONE);
        giveOptions(z, 0, 10, 20);
        z.series(1, 0, NONE);
        giveOptions(z, 1, 11, 21, 20);
        z.role(0, 0, 1);
        z.plan(0, 0, 1, 0);
        z.plan(1, 0, 1, 0);
        z.busy(0, 10, 11, false);
        due(21, "the chain and what follows", z.move(0, 1), 2);
        due(21, "the chain", z.planned(0, 0, 2), 20);
        due(21, "what follows", z.planned(1, 0, 2), 21);
    }

    private static void movesBySums() {
        // The sums of all ways are counted from nothing, and a chain's end is that of the way tried.
        ClockCall w = world(2);
        w.series(1, NONE, NONE);
        giveOptions(w, 0, 10, 40, 12, 13);
        w.series(1, 0, NONE);
        giveOptions(w, 1, 11, 14, 41);
        w.role(0, 0, 1);
        w.role(0, 1, 2);
        w.role(1, 1, 2);
        w.plan(0, 0, 1, 0);
        w.plan(1, 0, 1, 0);
        price(w, 0, 40, 9, 12, 3, 13, 2);
        price(w, 1, 13, 1, 14, 2, 41, 1);
        w.busy(0, 10, 11, false);
        due(21, "the chain back ahead of a way tried", w.move(0, 1), 2);
        due(21, "the least greatest sum, then the next", w.planned(0, 0, 0), 3);
        due(21, "the least greatest sum, then the next", w.planned(1, 0, 0), 2);
        // Sums of the week: to move series 1 is dearer than to move series 0.
        ClockCall x = world(1);
        for (int s = 0; s < 2; s++) {
            x.series(1, NONE, NONE);
            giveOptions(x, s, 10, 14 + s);
            x.plan(s, 0, 1, 0);
        }
        x.role(0, 0, 1);
        x.role(1, 0, 1);
        price(x, 0, 14, 4, 15, 5);
        due(21, "the lesser sum", x.move(0, 0), 1);
        due(21, "series 0 moves", x.planned(0, 0, 0), 1);
        due(21, "series 1 stays", x.planned(1, 0, 0), 0);
        // If one series has no way, none is moved.
        ClockCall y = world(2);
        for (int s = 0; s < 2; s++) {
            y.series(1, NONE, NONE);
            giveOptions(y, s, 10, 20);
            y.role(s, s, 1);
            y.plan(s, 0, 1, 0);
        }
        y.busy(0, 10, 11, false);
        y.cant(1, 1, 0);
        due(21, "no way for series 1", y.move(0, 2), NONE);
        due(21, "series 0 stays, too", y.planned(0, 0, 0), 0);
        due(21, "a way for series 0", y.move(0, 1), 1);
        due(21, "series 0 moves", y.planned(0, 0, 0), 1);
        // Pairs: one other option makes another pair.
        ClockCall z = world(2);
        z.series(1, NONE, 0);
        giveOptions(z, 0, 10, 11, 12, 13);
        z.plan(0, 0, 1, 0);
        z.busy(0, 11, 12, false);
        price(z, 0, 12, 3, 13, 2);
        due(21, "another pair", z.move(0, 1), 1);
        due(21, "its first", z.planned(0, 0, 0), 0);
        due(21, "its second", z.planned(0, 0, 1), 3);
    }

    private static void plannedOnes() {
        ClockCall x = world(1);
        x.series(1, NONE, NONE);
        giveOptions(x, 0, 7, 9);
        x.series(1, NONE, 0);
        giveOptions(x, 1, 300, 20);
        due(22, "nothing is", x.planned(0, 51, 0), NONE);
        x.plan(0, 51, 52, 0);
        x.plan(1, 50, 52, 0);
        for (int wild : new int[] {-1, 2, MIN, MAX}) due(22, "series " + wild, x.planned(wild, 51, 0), NONE);
        for (int wild : new int[] {-1, 52, MIN, MAX}) due(22, "week " + wild, x.planned(0, wild, 0), NONE);
        for (int wild : new int[] {-1, 4, MIN, MAX}) due(22, "what " + wild, x.planned(0, 51, wild), NONE);
        due(22, "option", x.planned(0, 51, 0), 0);
        due(22, "no second", x.planned(0, 51, 1), NONE);
        due(22, "slot", x.planned(0, 51, 2), 51 * 336 + 7);
        due(22, "no second slot", x.planned(0, 51, 3), NONE);
        due(22, "another week", x.planned(0, 50, 0), NONE);
        due(22, "first", x.planned(1, 50, 0), 0);
        due(22, "second", x.planned(1, 50, 1), 1);
        due(22, "slot", x.planned(1, 50, 2), 50 * 336 + 300);
        due(22, "second slot", x.planned(1, 50, 3), 50 * 336 + 20);
    }

    private static void comers() {
        ClockCall x = world(4);
        x.series(1, NONE, NONE);
        x.option(0, 7);
        for (int p = 0; p < 3; p++) x.role(0, p, p + 1);
        due(23, "nothing is planned", x.comes(0, 0, 0, 0), NONE);
        x.plan(0, 0, 1, 0);
        for (int wild : new int[] {-1, 4, MIN, MAX}) due(23, "person " + wild, x.comes(wild, 0, 0, 0), NONE);
        for (int wild : new int[] {-1, 1, MIN, MAX}) due(23, "series " + wild, x.comes(0, wild, 0, 0), NONE);
        for (int wild : new int[] {-1, 52, MIN, MAX}) due(23, "week " + wild, x.comes(0, 0, wild, 0), NONE);
        for (int wild : new int[] {-1, 1, MIN, MAX}) due(23, "known " + wild, x.comes(0, 0, 0, wild), NONE);
        for (int p = 0; p < 4; p++) due(23, "person " + p, x.comes(p, 0, 0, 0), p < 3 ? 1 : 0);
        for (int p = 0; p < 3; p++) {
            x.busy(p, 7, 8, false);
            due(23, "busy " + p, x.comes(p, 0, 0, p + 1), 0);
            due(23, "not yet known " + p, x.comes(p, 0, 0, p), 1);
        }
    }

    private static void comersToHalves() {
        ClockCall x = world(4);
        x.series(1, NONE, 3);
        giveOptions(x, 0, 8, 7);
        for (int p = 0; p < 3; p++) x.role(0, p, 2);
        price(x, 1, 8, 5, 7, 4);
        price(x, 2, 8, 5, 7, 6);
        x.plan(0, 0, 1, 0);
        due(23, "alike: the first", x.comes(0, 0, 0, 0), 1);
        due(23, "the second costs less", x.comes(1, 0, 0, 0), 2);
        due(23, "the first costs less", x.comes(2, 0, 0, 0), 1);
        due(23, "the chair to both", x.comes(3, 0, 0, 0), 3);
        x.busy(0, 8, 9, false);
        x.busy(1, 7, 8, false);
        x.busy(3, 8, 9, false);
        due(23, "free in the second alone", x.comes(0, 0, 0, 3), 2);
        due(23, "free in the first alone", x.comes(1, 0, 0, 3), 1);
        due(23, "the chair, where it is free", x.comes(3, 0, 0, 3), 2);
        x.busy(3, 7, 8, false);
        due(23, "the chair nowhere", x.comes(3, 0, 0, 4), 0);
        x.cant(2, 0, 0);
        due(23, "told cant", x.comes(2, 0, 0, 5), 0);
        // Only the half to which one comes is in the way of a greater series.
        x.series(1, NONE, NONE);
        giveOptions(x, 1, 8, 7);
        x.role(1, 1, 1);
        due(18, "the half to which it comes not", x.fits(1, 0, 0, NONE, 0), 1);
        due(18, "the half to which it comes", x.fits(1, 0, 1, NONE, 0), 0);
        x.role(1, 3, 1);
        due(18, "the chair is in both", x.fits(1, 0, 0, NONE, 0), 0);
    }

    private static void sums() {
        ClockCall x = world(3);
        x.series(2, NONE, NONE);
        x.option(0, 10);
        x.series(1, NONE, 0);
        giveOptions(x, 1, 11, 20);
        price(x, 0, 10, 1, 11, 2, 20, 40);
        price(x, 1, 10, 1, 11, 2, 20, 3);
        for (int s = 0; s < 2; s++) x.role(s, 1, 2);
        x.role(0, 0, 0);
        due(24, "nothing is planned", x.sum(1, 0), 0);
        for (int wild : new int[] {-1, 3, MIN, MAX}) due(24, "person " + wild, x.sum(wild, 0), NONE);
        for (int wild : new int[] {-1, 1, MIN, MAX}) due(24, "known " + wild, x.sum(0, wild), NONE);
        x.plan(0, 0, 2, 0);
        x.plan(0, 51, 52, 0);
        due(24, "three weeks", x.sum(1, 0), 9);
        x.plan(1, 0, 1, 0);
        due(24, "the chair, both halves", x.sum(0, 0), 42);
        due(24, "engaged in the first half, comes to the second", x.sum(1, 0), 12);
        x.cant(1, 0, 0);
        due(24, "comes to the first half then", x.sum(1, 1), 8);
        due(24, "as known ahead", x.sum(1, 0), 12);
        x.change(0, 336, -1);
        due(24, "by changed clocks", x.sum(1, 2), 4);
        due(24, "comes nowhere", x.sum(2, 2), 0);
    }

    private static void shiftedOnes() {
        ClockCall x = new ClockCall();
        x.land(0);
        x.land(2);
        x.person(0, 0);
        x.person(1, 0);
        x.series(1, NONE, 0);
        giveOptions(x, 0, 10, 20);
        x.role(0, 1, 2);
        x.series(1, NONE, NONE);
        x.option(1, 15);
        x.plan(0, 0, 2, 0);
        x.plan(1, 0, 2, 0);
        for (int wild : new int[] {-1, 1, MIN, MAX}) {
            due(25, "n " + wild, x.shifted(wild, 0), NONE);
            due(25, "m " + wild, x.shifted(0, wild), NONE);
        }
        x.change(1, 20, 3);
        due(25, "the later half, and both of the next week", x.shifted(0, 1), 3);
        due(25, "the other way", x.shifted(1, 0), 3);
        due(25, "the same", x.shifted(1, 1), 0);
        x.change(1, 336, 2);
        due(25, "one half", x.shifted(0, 2), 1);
        due(25, "both of the next week", x.shifted(1, 2), 2);
        x.change(1, 0, 2);
        due(25, "nothing new", x.shifted(2, 3), 0);
        x.change(0, 0, 1);
        due(25, "the chair without a role", x.shifted(3, 4), 0);
        x.role(0, 0, 4);
        due(25, "with a role", x.shifted(3, 4), 4);
        x.busy(0, 0, 17472, false);
        due(25, "who does not come, too", x.shifted(3, 5), 4);
        x.role(1, 0, 1);
        due(25, "of the other series, too", x.shifted(3, 5), 6);
    }

    private static void counts() {
        ClockCall x = world(3);
        x.land(1);
        x.busy(0, 0, 1, false);
        x.feast(1, 0);
        x.change(1, 0, 0);
        x.series(1, NONE, NONE);
        x.series(1, NONE, 1);
        giveOptions(x, 0, 5);
        giveOptions(x, 1, 5, 6);
        x.cant(2, 1, 0);
        x.plan(0, 0, 3, 0);
        x.plan(1, 1, 3, 0);
        due(26, "lands", x.count(0), 2);
        due(26, "persons", x.count(1), 3);
        due(26, "facts", x.count(2), 4);
        due(26, "series", x.count(3), 2);
        due(26, "meetings, a pair once", x.count(4), 5);
        for (int wild : new int[] {-1, 5, MIN, MAX}) due(26, "what " + wild, x.count(wild), NONE);
    }
}
