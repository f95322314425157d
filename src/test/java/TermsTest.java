/** The sentences of the document's Terms: of each bound the last value that is taken and the first that is not. */
public final class TermsTest {
    private static Sentences all;

    public static void main(String[] args) throws Exception {
        all = new Sentences();
        time();
        bounds();
        facts();
        clocks();
        persons();
        costs();
        canAndCost();
        whileClocksChange();
        seriesOnes();
        roles();
        fitting();
        engaged();
        groups();
        chains();
        comers();
        pairs();
        pairsFitting();
        halves();
        planLengths();
        planOrder();
        planOrderOfPairs();
        stuckOnes();
        stuckOnesAlone();
        plannedOnes();
        moves();
        movesInOrder();
        all.mustAllBeQuoted(Sentences.TERMS);
        all.end();
    }

    private static void terms(String words, String run) {
        all.holds(Sentences.TERMS, words, run);
    }

    // ---- I

    private static void time() {
        terms("TIME is counted in SLOTS of half an hour, all the same everywhere", """
                land({-24, 0, 28}) person({0, 1, 2}, 0)
                local({0, 1, 2}, 100, 0, {0, 1}) = {1, 28, 2, 4, 2, 32}
                busy({0, 1, 2}, 100, 102, false) = {0, 1, 2}            # in SLOTS, whatever the clocks tell
                can({0, 1, 2}, {99, 100, 101, 102}, 1, 3) = {0, 4, 4, 0, 0, 4, 4, 0, 0, 4, 4, 0}
                series(2, NONE, NONE) option(0, 100) role(0, {0, 1, 2}, 2) plan(0, 0, 2, 0) = 0
                planned(0, {0, 1}, 2) = {100, 436}  comes({0, 1, 2}, 0, {0, 1}, 3) = {0, 1, 0, 1, 0, 1}
                """);
        terms("SLOT t (0 .. 17471)", """
                land(0) person(0, 0)
                local(0, {-1, 0, 17471, 17472, MIN, MAX}, 0, 1) = {-1000000, 0, 47, -1000000, -1000000, -1000000}
                can(0, {-1, 0, 17471, 17472, MIN, MAX}, 1, 0) = {NONE, 0, 0, NONE, NONE, NONE}
                cost(0, {-1, 0, 17471, 17472, MIN, MAX}, 1, 0) = {NONE, 0, 0, NONE, NONE, NONE}
                change(0, {-1, 0, 17471, 17472, MIN, MAX}, 1) = {NONE, 0, 1, NONE, NONE, NONE}
                busy(0, 0, 17472, false) = 2
                span(0, {-1, 0, 17471, 17472, MIN, MAX}, 3) = {NONE, 2, 2, NONE, NONE, NONE}
                count(2) = 3
                """);
        terms("is of DAY t / 48 (0 .. 363)", """
                land(0)
                local(0, {0, 47, 48, 95, 96, 17423, 17424, 17471}, 0, 0) = {0, 0, 1, 1, 2, 362, 363, 363}
                feast(0, {-1, 0, 363, 364, MIN, MAX}) = {NONE, 0, 1, NONE, NONE, NONE}
                """);
        terms("WEEK t / 336 (0 .. 51)", """
                land(0) person(0, 0) series(1, NONE, NONE) option(0, {0, 335}) role(0, 0, 1)
                busy(0, 335, 336, false) = 0                        # the last SLOT of WEEK 0
                busy(0, 336, 337, false) = 1                        # the first of WEEK 1
                busy(0, 17471, 17472, false) = 2                    # the last of WEEK 51
                fits(0, {0, 1, 51}, {0, 1}, NONE, 3) = {1, 0, 0, 1, 1, 0}
                plan(0, 50, 52, 3) = 0
                planned(0, {49, 50, 51}, 2) = {NONE, 16800, 17136}
                """);
        terms("WEEK t / 336 (0 .. 51)", """
                land(0) person(0, 0) series(1, NONE, NONE) option(0, 0) role(0, 0, 2)
                cant(0, 0, {-1, 0, 51, 52, MIN, MAX}) = {NONE, 0, 1, NONE, NONE, NONE}
                fits(0, {-1, 0, 51, 52, MIN, MAX}, 0, NONE, 2) = {NONE, 1, 1, NONE, NONE, NONE}
                plan(0, {-1, 0, 51, 52}, {0, 1, 52, 53}, 2) =
                  {-2, -2, -2, -2, -2, 0, -2, -2, -2, -2, 0, -2, -2, -2, -2, -2}
                planned(0, {-1, 0, 51, 52, MIN, MAX}, 0) = {NONE, 0, 0, NONE, NONE, NONE}
                comes(0, 0, {-1, 0, 51, 52, MIN, MAX}, 2) = {NONE, 0, 0, NONE, NONE, NONE}
                comes(0, 0, {0, 51}, {0, 1, 2}) = {1, 0, 0, 1, 1, 0}
                move({-1, 0, 51, 52, MIN, MAX}, 2) = {-2, 0, 0, -2, -2, -2}
                """);
    }

    private static void bounds() {
        terms("LANDS, 8 at most", """
                local(0, 0, 0, 3) = -1000000                        # no LAND
                person({-1, 0}, 0) = NONE
                land({0..7}) = {0..7}
                land(0) = NONE
                count(0) = 8
                local({-1, 0, 7, 8, MIN, MAX}, 0, 0, 3) = {-1000000, 0, 7, -1000000, -1000000, -1000000}
                when({-1, 0, 7, 8, MIN, MAX}, 0, 7, 0, 1) = {NONE, 7, 0, NONE, NONE, NONE}
                person({-1, 0, 7, 8, MIN, MAX}, 0) = {NONE, 0, 1, NONE, NONE, NONE}
                change({-1, 0, 7, 8, MIN, MAX}, 0, 0) = {NONE, 0, 1, NONE, NONE, NONE}
                feast({-1, 0, 7, 8, MIN, MAX}, 0) = {NONE, 2, 3, NONE, NONE, NONE}
                """);
        terms("have an OFFSET (-24 .. 28)", """
                land({-25, -24, 28, 29, MIN, MAX}) = {NONE, 0, 1, NONE, NONE, NONE}
                local({0, 1}, 0, 0, 3) = {-24, 28}
                change(0, 9, {-25, -24, 28, 29, MIN, MAX}) = {NONE, 0, 1, NONE, NONE, NONE}
                local(0, 9, {0, 1, 2}, 3) = {-24, -24, 28}
                """);
    }

    private static void facts() {
        String full = """
                land(0) person(0, 0) series(1, NONE, NONE) option(0, 0) role(0, 0, 1)
                busy(0, 0, {1..399}, false) = {0..398}
                """;
        String oneMore = """
                change(0, 0, 6) = NONE  feast(0, 200) = NONE  busy(0, 9600, 9601, false) = NONE  cant(0, 0, 9) = NONE
                count(2) = 400
                local(0, 0, 401, 3) = -1000000
                can(0, 9600, 1, 400) = 0
                fits(0, 9, 0, NONE, 400) = 1
                """;
        terms("FACTS, numbered from 0 on, 400 at most",
                full + "change(0, 17471, 5) = 399  local(0, 17471, {399, 400}, 3) = {0, 5}" + oneMore);
        terms("FACTS, numbered from 0 on, 400 at most",
                full + "feast(0, 100) = 399  can(0, 4800, 1, {399, 400}) = {0, 3}" + oneMore);
        terms("FACTS, numbered from 0 on, 400 at most",
                full + "busy(0, 4800, 4801, true) = 399  span(0, 4800, {399, 400}) = {NONE, -2}" + oneMore);
        terms("FACTS, numbered from 0 on, 400 at most",
                full + "cant(0, 0, 3) = 399  fits(0, 3, 0, NONE, {399, 400}) = {1, 0}" + oneMore);
        terms("as KNOWN by n the first n of them are", """
                land(0) person(0, 0) series(1, NONE, NONE) option(0, 0) role(0, 0, 1)
                plan(0, 0, 1, 0) = 0                                # no FACT: 0 alone is taken
                local(0, 0, {-1, 0, 1, MIN, MAX}, 3) = {-1000000, 0, -1000000, -1000000, -1000000}
                when(0, 0, 0, {-1, 0, 1, MIN, MAX}, 0) = {NONE, 1, NONE, NONE, NONE}
                can(0, 0, 1, {-1, 0, 1, MIN, MAX}) = {NONE, 0, NONE, NONE, NONE}
                cost(0, 0, 1, {-1, 0, 1, MIN, MAX}) = {NONE, 0, NONE, NONE, NONE}
                span(0, 0, {-1, 0, 1, MIN, MAX}) = NONE
                fits(0, 0, 0, NONE, {-1, 0, 1, MIN, MAX}) = {NONE, 1, NONE, NONE, NONE}
                plan(0, 0, 1, {-1, 0, 1, MIN, MAX}) = {-2, 0, -2, -2, -2}
                move(0, {-1, 0, 1, MIN, MAX}) = {-2, 0, -2, -2, -2}
                comes(0, 0, 0, {-1, 0, 1, MIN, MAX}) = {NONE, 1, NONE, NONE, NONE}
                sum(0, {-1, 0, 1, MIN, MAX}) = {NONE, 0, NONE, NONE, NONE}
                shifted({-1, 0, 1, MIN, MAX}, 0) = {NONE, 0, NONE, NONE, NONE}
                shifted(0, {-1, 0, 1, MIN, MAX}) = {NONE, 0, NONE, NONE, NONE}
                """);
        terms("as KNOWN by n the first n of them are", """
                land(0) person(0, 0) row(0, 2) cell(0, 1, 7)
                series(1, NONE, NONE) option(0, 0) role(0, 0, 1) plan(0, 0, 1, 0) = 0
                change(0, 0, 1) = 0  busy(0, 0, 1, false) = 1  feast(0, 7) = 2  cant(0, 0, 2) = 3
                local(0, 0, {0..5}, 3) = {0, 1, 1, 1, 1, -1000000}
                when(0, 0, 1, {0..5}, 1) = {1, 0, 0, 0, 0, NONE}
                can(0, 0, 1, {0..5}) = {0, 0, 4, 4, 4, NONE}
                can(0, 336, 1, {0..5}) = {0, 0, 0, 3, 3, NONE}
                cost(0, 0, 1, {0..5}) = {0, 7, 7, 7, 7, NONE}
                span(0, 0, {0..5}) = {NONE, NONE, 1, 1, 1, NONE}
                fits(0, 2, 0, NONE, {0..5}) = {1, 1, 1, 1, 0, NONE}
                comes(0, 0, 0, {0..5}) = {1, 1, 0, 0, 0, NONE}
                sum(0, {0..5}) = {0, 7, 0, 0, 0, NONE}
                shifted(0, {0..5}) = {0, 1, 1, 1, 1, NONE}
                shifted({0..5}, 4) = {1, 0, 0, 0, 0, NONE}
                move(0, {0..5}) = {0, 0, NONE, NONE, NONE, -2}
                plan(0, 2, 3, {0..5}) = {0, 7, 7, 7, NONE, -2}
                """);
        terms("CHANGE: of a LAND's OFFSET from SLOT t on.", """
                land({3, 3}) change(0, 100, 5) = 0
                local(0, {0, 99, 100, 101, 17471}, 1, 3) = {3, 3, 5, 5, 5}
                local(1, {99, 100}, 1, 3) = 3                       # of that LAND alone
                change(1, 0, 6) = 1  local(1, {0, 17471}, 2, 3) = 6
                change(1, 17471, 7) = 2  local(1, {17470, 17471}, 3, 3) = {6, 7}
                """);
        terms("FEAST: of a LAND, one of its local days.", """
                land({-24, 28}) person({0, 1}, 0)
                feast(0, 0) = 0  feast(0, 363) = 1  feast(1, 0) = 2  feast(1, 363) = 3
                can(0, {0, 23, 24, 71, 72}, 1, 1) = {0, 0, 3, 3, 0}
                can(0, {17447, 17448, 17471}, 1, 2) = {0, 3, 3}
                can(1, {0, 19, 20}, 1, {2, 3}) = {0, 3, 0, 3, 0, 0}
                can(1, {17395, 17396, 17443, 17444, 17471}, 1, 4) = {0, 3, 3, 0, 0}
                """);
        terms("BUSY: of a PERSON, from SLOT a up to (not with) b, private or not.", """
                land(0) person(0, {0, 0}) busy(0, 10, 12, true) = 0  busy(0, 20, 21, false) = 1
                can(0, {9, 10, 11, 12, 19, 20, 21}, 1, 2) = {0, 4, 4, 0, 0, 4, 0}
                span(0, {9, 10, 11, 12, 19, 20, 21}, 2) = {NONE, -2, -2, NONE, NONE, 1, NONE}
                can(1, {10, 11, 20}, 1, 2) = 0                      # of that PERSON alone
                span(1, {10, 11, 20}, 2) = NONE
                """);
        terms("CANT: of a PERSON, for a SERIES in a WEEK.", """
                land(0) person(0, {0, 0}) series(1, NONE, {NONE, NONE})
                option({0, 1}, 5) role({0, 1}, {0, 1}, 2) plan({0, 1}, 0, 2, 0) = 0
                option(1, 6) role(1, {0, 1}, 0) role(1, {0, 1}, 2)
                cant(0, 0, 0) = 0
                comes({0, 1}, 0, {0, 1}, 1) = {0, 1, 1, 1}          # of that PERSON and WEEK alone
                fits(1, 0, 1, NONE, 1) = 1  comes(0, 1, 0, {0, 1}) = {0, 1}
                can(0, 5, 1, 1) = 0
                """);
    }

    private static void clocks() {
        terms("The OFFSET of a LAND at SLOT t: of its CHANGES that are from t or ahead the one with the latest SLOT", """
                land(0) change(0, 200, 2) change(0, 100, 1) change(0, 300, 3)      # told in another order
                local(0, {0, 99, 100, 199, 200, 299, 300, 17471}, 3, 3) = {0, 0, 1, 1, 2, 2, 3, 3}
                local(0, {99, 100, 199, 200, 299, 300}, 2, 3) = {0, 1, 1, 2, 2, 2}
                local(0, {99, 100, 199, 200, 299, 300}, 1, 3) = {0, 0, 0, 2, 2, 2}
                """);
        terms("(of those with the same the last told)", """
                land(0) change(0, 100, 1) change(0, 100, 2) change(0, 50, 9) change(0, 100, 3) change(0, 0, -1)
                local(0, 100, {0..5}, 3) = {0, 1, 2, 2, 3, 3}
                local(0, 99, {0..5}, 3) = {0, 0, 0, 9, 9, 9}
                local(0, 49, {4, 5}, 3) = {0, -1}
                """);
        terms("without one its first OFFSET", """
                land({7, -7}) local({0, 1}, {0, 17471}, 0, 3) = {7, 7, -7, -7}
                change(0, 1, 2) = 0  local({0, 1}, {0, 1}, 1, 3) = {7, 2, -7, -7}
                """);
        terms("Its LOCAL time is t + OFFSET (below 0, too)", """
                land({-24, -1, 0})
                local(0, {0, 1, 23, 24, 71, 72}, 0, 0) = {-1, -1, -1, 0, 0, 1}
                local(0, {0, 1, 23, 24, 71, 72}, 0, 1) = {24, 25, 47, 0, 47, 0}
                local(1, {0, 1, 48, 49}, 0, 0) = {-1, 0, 0, 1}
                local(1, {0, 1, 48, 49}, 0, 1) = {47, 0, 47, 0}
                local(2, {0, 47, 48}, 0, 0) = {0, 0, 1}
                change(2, 0, -24) = 0  local(2, {0, 23, 24}, 1, 0) = {-1, -1, 0}
                """);
        terms("its local day is that / 48 rounded down, the rest (0 .. 47) its local slot", """
                land({28, 1, 0})
                local(0, {0, 19, 20, 17443, 17444, 17471}, 0, 0) = {0, 0, 1, 363, 364, 364}
                local(0, {0, 19, 20, 17443, 17444, 17471}, 0, 1) = {28, 47, 0, 47, 0, 27}
                local(1, {46, 47, 17470, 17471}, 0, 0) = {0, 1, 363, 364}
                local(1, {46, 47, 17470, 17471}, 0, 1) = {47, 0, 47, 0}
                local(2, 17471, 0, {0, 1}) = {363, 47}
                """);
        terms("weekday: the local day's rest by 7 (0 .. 6)", """
                land({-24, 0, 28})
                local(0, {0, 23, 24, 359, 360}, 0, 2) = {6, 6, 0, 6, 0}            # from local day -1 on
                local(1, {0, 48, 96, 144, 192, 240, 288, 335, 336}, 0, 2) = {0, 1, 2, 3, 4, 5, 6, 6, 0}
                local(2, {17395, 17396, 17443, 17444, 17471}, 0, 2) = {5, 6, 6, 0, 0}   # up to local day 364
                """);
    }

    // ---- II

    private static void persons() {
        terms("PERSONS, 12 at most", """
                land(0)
                row({-1, 0}, 1) = false  sum({-1, 0}, 0) = NONE       # no PERSON
                person(0, {0, 0, 0, 0, 0, 0, 0, 0, 0, 0, 0, 0}) = {0..11}
                person(0, 0) = NONE
                count(1) = 12
                row({-1, 0, 11, 12, MIN, MAX}, 1) = {false, true, true, false, false, false}
                cell({-1, 0, 11, 12, MIN, MAX}, 0, 1) = {false, true, true, false, false, false}
                busy({-1, 0, 11, 12, MIN, MAX}, 0, 1, false) = {NONE, 0, 1, NONE, NONE, NONE}
                series(1, NONE, {-2, 11, 12, MIN, MAX}) = {NONE, 0, NONE, NONE, NONE}
                option(0, {20, 21})
                role(0, {-1, 0, 11, 12, MIN, MAX}, 2) = {false, true, true, false, false, false}
                cant({-1, 0, 11, 12, MIN, MAX}, 0, 9) = {NONE, 2, 3, NONE, NONE, NONE}
                can({-1, 0, 11, 12, MIN, MAX}, 0, 1, 4) = {NONE, 4, 4, NONE, NONE, NONE}
                cost({-1, 0, 11, 12, MIN, MAX}, 0, 1, 4) = {NONE, 1, 1, NONE, NONE, NONE}
                span({-1, 0, 11, 12, MIN, MAX}, 0, 4) = {NONE, 0, 1, NONE, NONE, NONE}
                plan(0, 0, 1, 4) = 2
                comes({-1, 0, 11, 12, MIN, MAX}, 0, 0, 4) = {NONE, 1, 3, NONE, NONE, NONE}
                sum({-1, 0, 11, 12, MIN, MAX}, 4) = {NONE, 1, 2, NONE, NONE, NONE}
                """);
        terms("a LAND, days OFF (weekdays as bits 0 .. 6)", """
                land(0) person(0, {1, 2, 4, 8, 16, 32, 64}) = {0..6}
                can({0..6}, {0, 48, 96, 144, 192, 240, 288}, 1, 0) =
                  {2,0,0,0,0,0,0, 0,2,0,0,0,0,0, 0,0,2,0,0,0,0, 0,0,0,2,0,0,0, 0,0,0,0,2,0,0, 0,0,0,0,0,2,0, 0,0,0,0,0,0,2}
                can(0, {0, 47, 48, 335, 336, 383, 384}, 1, 0) = {2, 2, 0, 0, 2, 2, 0}
                can(6, {287, 288, 335, 336, 17423, 17424, 17471}, 1, 0) = {0, 2, 2, 0, 0, 2, 2}
                person(0, {-1, 0, 127, 128, MIN, MAX}) = {NONE, 7, 8, NONE, NONE, NONE}
                can(7, {0, 48, 96, 144, 192, 240, 288}, 1, 0) = 0
                can(8, {0, 48, 96, 144, 192, 240, 288}, 1, 0) = 2
                """);
        terms("a LAND, days OFF (weekdays as bits 0 .. 6)", """
                land({-24, 28}) person(0, 64) = 0  person(1, 1) = 1
                can(0, {0, 23, 24, 311, 312, 359, 360}, 1, 0) = {2, 2, 0, 0, 2, 2, 0}   # local day -1 is a weekday 6
                can(1, {17443, 17444, 17471}, 1, 0) = {0, 2, 2}                         # local day 364 is a weekday 0
                """);
    }

    private static void costs() {
        terms("COSTS: a row of bytes by local slots", """
                land({10, -24, 28}) person({0, 1, 2}, 0) row({0, 1, 2}, 48)
                cell(0, {9, 10}, {7}) cell(1, 24, 5) cell(1, 47, 6) cell(2, 27, 8) cell(2, 28, 9)
                cost(0, {0, 1, 46, 47, 48, 49}, 1, 0) = {7, 0, 0, 7, 7, 0}
                cost(1, {0, 1, 22, 23, 24}, 1, 0) = {5, 0, 0, 6, 0}                     # local times below 0
                cost(2, {0, 1, 17470, 17471}, 1, 0) = {9, 0, 0, 8}                      # and beyond the last DAY
                """);
        terms("MISSING (all 0)", """
                land(0) person(0, 0)
                cost(0, {0, 47, 17466}, 6, 0) = 0  can(0, {0, 47, 17466}, 6, 0) = 0
                cell(0, {-1, 0, 1, 47}, 0) = false
                row(0, 48) cell(0, {0..47}, -1) cost(0, 0, 6, 0) = 0  can(0, 0, 1, 0) = 1
                row(0, NONE) = true  can(0, {0, 47}, 1, 0) = 0  cell(0, {-1, 0, 47}, 0) = false
                """);
        terms("1 .. 48 cells (a slot beyond has the last one's)", """
                land(0) person(0, 0)
                row(0, {-2, 0, 1, 48, 49, MIN, MAX}) = {false, false, true, true, false, false, false}
                row(0, 1) cell(0, 0, 9) cost(0, {0, 1, 47, 48}, 1, 0) = 9
                row(0, 2) cell(0, 0, 1) cell(0, 1, 2) cost(0, {0, 1, 2, 47, 48}, 1, 0) = {1, 2, 2, 2, 1}
                row(0, 47) cell(0, 45, 1) cell(0, 46, 5) cost(0, {44, 45, 46, 47, 48}, 1, 0) = {0, 1, 5, 5, 0}
                row(0, 48) cell(0, 46, 5) cell(0, 47, 6) cost(0, {45, 46, 47, 48}, 1, 0) = {0, 5, 6, 0}
                row(0, 3) cell(0, 2, -1) can(0, {0, 1, 2, 3, 47, 48}, 1, 0) = {0, 0, 1, 1, 1, 0}
                """);
        terms("-1 is NEVER", """
                land(0) person(0, 0) row(0, 3) cell(0, {0, 1, 2}, {0}) cell(0, 1, -1)
                can(0, {0, 1, 2}, 1, 0) = {0, 1, 0}  cost(0, {0, 1, 2}, 1, 0) = 0
                cell(0, 1, 0) can(0, 1, 1, 0) = 0
                """);
    }

    private static void canAndCost() {
        terms("A PERSON CAN from SLOT t on for L SLOTS, as KNOWN by n", """
                land(0) person(0, 0) row(0, 48) cell(0, 20, -1)
                busy(0, 103, 104, false) = 0  feast(0, 4) = 1  change(0, 300, 5) = 2
                can(0, 100, {1..6}, {0, 1}) = {0, 0, 0, 0, 0, 0, 0, 4, 0, 4, 0, 4}
                can(0, 188, {4, 5}, {1, 2}) = {0, 0, 0, 3}
                can(0, 303, {1..6}, {2, 3}) = {0, 1, 0, 1, 0, 1, 0, 1, 0, 1, 1, 1}      # NEVER at 308, or at 303
                """);
        terms("each of these SLOTS is not NEVER", """
                land(0) person(0, 0) row(0, 48) cell(0, 10, -1)
                can(0, {4, 5, 10, 11}, 6, 0) = {0, 1, 1, 0}
                can(0, {9, 10, 11}, 1, 0) = {0, 1, 0}
                """);
        terms("not on a weekday that is OFF", """
                land(0) person(0, 2) can(0, {42, 43, 95, 96}, 6, 0) = {0, 2, 2, 0}  can(0, {47, 48, 95, 96}, 1, 0) = {0, 2, 2, 0}
                """);
        terms("not on a FEAST of its LAND", """
                land({0, 0}) person({0, 1}, 0) feast(0, 3) = 0
                can(0, {138, 139, 191, 192}, 6, 1) = {0, 3, 3, 0}  can(1, {138, 139, 191, 192}, 6, 1) = 0
                """);
        terms("not in a BUSY span", """
                land(0) person(0, {0, 0}) busy(0, 500, 501, false) = 0
                can(0, {494, 495, 500, 501}, 6, 1) = {0, 4, 4, 0}  can(1, {494, 495, 500, 501}, 6, 1) = 0
                """);
        terms("Its COST is the sum of the cells of these SLOTS.", """
                land(0) person(0, 0) row(0, 48) cell(0, 10, 100) cell(0, 15, 3) cell(0, 47, 20) cell(0, 0, 50)
                cost(0, {4, 5, 10, 11, 15, 16}, 6, 0) = {0, 100, 103, 3, 3, 0}
                cost(0, {46, 47, 48}, 2, 0) = {20, 70, 50}                              # over midnight
                row(0, 1) cell(0, 0, 100) cost(0, {0, 17466}, 6, 0) = 600
                """);
    }

    private static void whileClocksChange() {
        String bits = """
                land(0) person(0, 0) row(0, 48)
                cell(0, 10, 1) cell(0, 11, 2) cell(0, 12, 4) cell(0, 13, 8) cell(0, 14, 16) cell(0, 15, 32)
                """;
        terms("Its COST is the sum of the cells of these SLOTS.", bits + """
                cost(0, 10, {1..6}, 0) = {1, 3, 7, 15, 31, 63}
                change(0, 12, 2) = 0  cost(0, 10, {1..4}, 1) = {1, 3, 19, 51}           # the hours 12 and 13 are not
                change(0, 13, 1) = 1  cost(0, 10, {1..5}, 2) = {1, 3, 19, 35, 67}       # 14 is twice
                """);
        terms("each of these SLOTS is not NEVER", bits + """
                cell(0, 14, -1) can(0, 8, {1..6}, 0) = 0  can(0, 9, 6, 0) = 1
                change(0, 12, 2) = 0  can(0, 8, {1..6}, 1) = {0, 0, 0, 0, 1, 1}  can(0, 13, 2, 1) = 0
                """);
        terms("not on a weekday that is OFF", """
                land(0) person(0, 2) change(0, 40, 8) = 0  can(0, {34, 35, 39, 40}, {5, 6}, {0, 1}) =
                  {0, 0, 0, 0,  0, 0, 0, 2,  0, 2, 0, 2,  0, 2, 0, 2}                   # weekday 1 begins at 40, not at 48
                """);
        terms("not on a FEAST of its LAND", """
                land(0) person(0, 0) feast(0, 1) = 0  change(0, 60, -20) = 1
                can(0, {47, 48, 59, 60, 67, 68, 95, 96, 115, 116}, 1, 2) = {0, 3, 3, 0, 0, 3, 3, 3, 3, 0}   # the day twice begun
                """);
    }

    private static void seriesOnes() {
        terms("SERIES, 4 at most, numbered from 0 on", """
                land(0) person(0, 0)
                option({-1, 0}, 0) = NONE  role(0, 0, 1) = false  plan(0, 0, 1, 0) = -2      # no SERIES
                series({1, 2, 3, 4}, NONE, NONE) = {0..3}
                series(1, NONE, NONE) = NONE
                count(3) = 4
                option({-1, 0, 3, 4, MIN, MAX}, 5) = {NONE, 0, 0, NONE, NONE, NONE}
                role({-1, 0, 3, 4, MIN, MAX}, 0, 2) = {false, true, true, false, false, false}
                cant(0, {-1, 0, 3, 4, MIN, MAX}, 9) = {NONE, 0, 1, NONE, NONE, NONE}
                fits({-1, 0, 3, 4, MIN, MAX}, 0, 0, NONE, 2) = {NONE, 1, 1, NONE, NONE, NONE}
                plan({-1, 0, 3, 4, MIN, MAX}, 0, 1, 2) = {-2, 0, 0, -2, -2, -2}
                planned({-1, 0, 3, 4, MIN, MAX}, 0, 2) = {NONE, 5, 5, NONE, NONE, NONE}
                comes(0, {-1, 0, 3, 4, MIN, MAX}, 0, 2) = {NONE, 1, 0, NONE, NONE, NONE}
                """);
        terms("LENGTH (1 .. 6 SLOTS)", """
                land(0) person(0, 0)
                series({-1, 0, 1, 6, 7, MIN, MAX}, NONE, NONE) = {NONE, NONE, 0, 1, NONE, NONE, NONE}
                option({0, 1}, 10) role({0, 1}, 0, 1)
                busy(0, 9, 10, false) busy(0, 16, 17, false) busy(0, 11, 12, false) busy(0, 15, 16, false)
                fits(0, 0, 0, NONE, {2, 4}) = 1
                fits(1, 0, 0, NONE, {2, 3, 4}) = {1, 0, 0}
                """);
        terms("OPTIONS, up to 6: SLOTS of a week (0 .. 335), as told", """
                land(0) series(1, NONE, {NONE, NONE})
                fits(0, 0, {-1, 0}, NONE, 0) = NONE                   # no OPTION
                option(0, {335, 0, 20, 20, 10, 5}) = {0..5}
                option(0, {0, 1}) = NONE
                option(1, {-1, 0, 335, 336, MIN, MAX}) = {NONE, 0, 1, NONE, NONE, NONE}
                fits(0, 0, {-1, 0, 1, 2, 3, 4, 5, 6, MIN, MAX}, NONE, 0) = {NONE, 1, 1, 1, 1, 1, 1, NONE, NONE, NONE}
                fits(1, 0, {0, 1, 2}, NONE, 0) = {1, 1, NONE}
                plan(0, 0, 1, 0) = 0  planned(0, 0, {0, 2}) = {0, 335}      # the first told, not the earliest
                """);
        terms("its CHAIN: a SERIES of a lesser number", """
                series(1, {-2, 0, 1, MIN, MAX}, NONE) = NONE
                series(1, NONE, NONE) = 0
                series(1, {-2, 1, 2, MIN, MAX}, NONE) = NONE          # nor itself
                series(1, 0, NONE) = 1
                series(1, 1, NONE) = 2
                series(1, 3, NONE) = NONE
                series(1, 2, NONE) = 3
                count(3) = 4
                """);
        terms("SPLIT or not, with a CHAIR, a PERSON", """
                series(1, NONE, {-2, 0, 1, MIN, MAX}) = NONE
                land(0) person(0, 0) series(1, NONE, {-2, 1, MIN, MAX}) = NONE
                series(1, NONE, NONE) = 0  series(1, NONE, 0) = 1
                option({0, 1}, {10, 20})
                fits({0, 1}, 0, 0, {NONE, 1}, 0) = {1, NONE, NONE, 1}
                """);
    }

    private static void roles() {
        terms("ROLES of PERSONS: 0 none, 1 MUST, 2 MAY, 3 .. 5 ONE of the group", """
                land(0) person(0, {0, 0}) series(1, NONE, NONE) option(0, 5) plan(0, 0, 1, 0) = 0
                comes({0, 1}, 0, 0, 0) = 0
                busy(0, 5, 6, false) = 0
                role(0, 0, {-1, 6, MIN, MAX}) = false  fits(0, 0, 0, NONE, 1) = 1
                role(0, 0, 0) fits(0, 0, 0, NONE, {0, 1}) = 1  comes(0, 0, 0, {0, 1}) = 0
                role(0, 0, 1) fits(0, 0, 0, NONE, {0, 1}) = {1, 0}  comes(0, 0, 0, {0, 1}) = {1, 0}
                role(0, 0, 2) fits(0, 0, 0, NONE, {0, 1}) = 1  comes(0, 0, 0, {0, 1}) = {1, 0}
                role(0, 0, 3) fits(0, 0, 0, NONE, {0, 1}) = {1, 0}  comes(0, 0, 0, {0, 1}) = {1, 0}
                role(0, 0, 4) fits(0, 0, 0, NONE, {0, 1}) = {1, 0}  comes(0, 0, 0, {0, 1}) = {1, 0}
                role(0, 0, 5) fits(0, 0, 0, NONE, {0, 1}) = {1, 0}  comes(0, 0, 0, {0, 1}) = {1, 0}
                role(0, 1, {3, 4}) fits(0, 0, 0, NONE, 1) = 0  role(0, 1, 5) fits(0, 0, 0, NONE, 1) = 1
                """);
        terms("(of each group that has PERSONS one has to come)", """
                land(0) person(0, {0, 0, 0, 0, 0, 0}) series(1, NONE, NONE) option(0, 5) busy({0, 2, 4}, 0, 9, false)
                fits(0, 0, 0, NONE, 3) = 1                            # no group has PERSONS
                role(0, 0, 3) fits(0, 0, 0, NONE, 3) = 0
                role(0, 1, 3) fits(0, 0, 0, NONE, 3) = 1
                role(0, 2, 4) fits(0, 0, 0, NONE, 3) = 0
                role(0, 3, 4) fits(0, 0, 0, NONE, 3) = 1
                role(0, 4, 5) fits(0, 0, 0, NONE, 3) = 0
                role(0, 5, 5) fits(0, 0, 0, NONE, 3) = 1
                role(0, 5, 4) fits(0, 0, 0, NONE, 3) = 0
                role(0, 4, 0) fits(0, 0, 0, NONE, 3) = 1              # the group has no PERSONS again
                """);
    }

    private static void fitting() {
        terms("AN OPTION in a WEEK FITS, as KNOWN by n", """
                land(0) person(0, 0) row(0, 48) cell(0, 11, -1)
                series(1, NONE, {NONE, NONE}) option({0, 1}, 10) role({0, 1}, 0, 1) plan(0, 0, 2, 0) = 0
                fits(1, {0, 1}, 0, NONE, 0) = 0                         # engaged in SERIES 0
                cant(0, 0, 0) = 0  fits(1, {0, 1}, 0, NONE, {0, 1}) = {0, 1, 0, 0}
                busy(0, 10, 11, false) = 1  fits({0, 1}, 0, 0, NONE, {0, 1, 2}) = {1, 0, 0, 0, 1, 0}
                change(0, 300, 1) = 2  fits(0, 1, 0, NONE, {2, 3}) = {1, 0}
                """);
        terms("its SLOTS are all of the 52 WEEKS", """
                land(0) person(0, 0) series({1, 2, 6}, NONE, NONE)
                option(0, 335) option(1, {334, 335}) option(2, {330, 331, 335})
                fits(0, 51, 0, NONE, 0) = 1
                fits(1, {50, 51}, {0, 1}, NONE, 0) = {1, 1, 1, 0}
                fits(2, {50, 51}, {0, 1, 2}, NONE, 0) = {1, 1, 1, 1, 0, 0}
                plan(2, 51, 52, 0) = 0  planned(2, 51, {0, 2}) = {0, 17466}
                series(2, NONE, 0) option(3, {335, 334}) fits(3, {50, 51}, 0, 1, 0) = 0
                option(3, {332, 0}) fits(3, {50, 51}, 0, {2, 3}, 0) = {1, 1, 0, 0}
                fits(3, {50, 51}, 1, {2, 3}, 0) = 1  fits(3, 51, 2, 3, 0) = 1
                plan(3, 51, 52, 0) = 0  planned(3, 51, {0, 1}) = {1, 2}
                """);
        terms("each MUST IS FREE: it CAN, has not told CANT", """
                land(0) person(0, {0, 2, 0}) series(2, NONE, NONE) option(0, 10) role(0, {0, 2}, 1)
                fits(0, 0, 0, NONE, 0) = 1
                row(0, 48) cell(0, 11, -1) fits(0, 0, 0, NONE, 0) = 0    # NEVER
                row(0, NONE) fits(0, 0, 0, NONE, 0) = 1
                option(0, {47, 95, 96}) role(0, 1, 1)
                fits(0, 0, {0, 1, 2, 3}, NONE, 0) = {1, 0, 0, 1}         # OFF
                feast(0, 2) = 0  fits(0, 0, 3, NONE, {0, 1}) = {1, 0}    # FEAST
                busy(2, 11, 12, true) = 1  fits(0, 0, 0, NONE, {1, 2}) = {1, 0}   # BUSY
                cant(2, 0, 1) = 2  fits(0, {0, 1, 2}, 0, NONE, {1, 3}) = {1, 0, 1, 0, 1, 1}
                """);
    }

    private static void engaged() {
        String both = """
                land(0) person(0, {0, 0, 0}) series(2, NONE, {NONE, NONE})
                option(0, 10) role(0, 0, 1) role(0, 1, 2) option(1, {8, 9, 10, 11, 12}) role(1, 0, 1)
                """;
        terms("comes to no meeting of a SERIES of a lesser number that is PLANNED in that WEEK", both + """
                fits(1, {0, 1}, {0..4}, NONE, 0) = 1                    # nothing is PLANNED
                plan(0, 0, 1, 0) = 0
                fits(1, 0, {0..4}, NONE, 0) = {1, 0, 0, 0, 1}
                fits(1, 1, {0..4}, NONE, 0) = 1                         # in another WEEK
                role(1, 0, 0) role(1, 1, 1) fits(1, 0, {0..4}, NONE, 0) = {1, 0, 0, 0, 1}
                role(1, 1, 0) role(1, 2, 1) fits(1, 0, {0..4}, NONE, 0) = 1      # who has no ROLE there
                """);
        terms("comes to no meeting of a SERIES of a lesser number that is PLANNED in that WEEK", both + """
                plan(0, 0, 1, 0) = 0  fits(1, 0, 2, NONE, 0) = 0
                cant(0, 0, 0) = 0  fits(1, 0, 2, NONE, {0, 1}) = {0, 1}          # who does not come
                role(0, 0, 0) fits(1, 0, 2, NONE, {0, 1}) = 1
                plan(1, 0, 1, 1) = 0  planned(1, 0, 0) = 0
                role({0, 1}, 0, {1}) fits(0, 0, 0, NONE, 0) = 1
                """);
        terms("comes to no meeting of a SERIES of a lesser number", """
                land(0) person(0, {0, 0}) series(1, NONE, {NONE, NONE, NONE}) option({0, 1, 2}, 10)
                role(2, 0, 1) plan(2, 0, 1, 0) = 0
                role({0, 1}, 0, 1) fits({0, 1}, 0, 0, NONE, 0) = 1      # a greater one does not hinder
                plan(1, 0, 1, 0) = 0
                fits({0, 1, 2}, 0, 0, NONE, 0) = {1, 1, 0}              # nor does it itself
                role(1, 0, 0) role(0, 1, 1) plan(0, 0, 1, 0) = 0
                fits(2, 0, 0, NONE, 0) = 0                              # 0 is engaged in SERIES 0
                role(0, 0, 0) role(1, 0, 1) role(2, 1, 1) fits(2, 0, 0, NONE, 0) = 0   # 1 in SERIES 0, 0 in SERIES 1
                role(2, 0, 0) fits(2, 0, 0, NONE, 0) = 0
                role(2, 1, 0) role(2, 0, 1) fits(2, 0, 0, NONE, 0) = 0
                """);
        terms("has a SLOT with it in common", """
                land(0) person(0, 0) series({6, 1, 6}, NONE, NONE)
                option(0, {335, 20}) role({0, 1, 2}, 0, 1) plan(0, 0, 1, 0) = 0
                option(1, {0, 334, 335}) fits(1, 0, {0, 1, 2}, NONE, 0) = {1, 1, 0}
                fits(1, 1, 0, NONE, 0) = 1                              # 336 is in common, but of another WEEK's
                option(2, {329, 330}) fits(2, 0, {0, 1}, NONE, 0) = {1, 0}
                busy(0, 335, 336, false) = 0  plan(0, 2, 3, 1) = 0  busy(0, 1007, 1008, false) = 1  plan(0, 2, 3, 2) = 0
                planned(0, 2, 0) = 1
                option(1, {19, 20, 25}) fits(1, 2, {3, 4, 5}, NONE, 2) = {1, 0, 0}
                option(2, {14, 15, 25, 26}) fits(2, 2, {2, 3, 4, 5}, NONE, 2) = {1, 0, 0, 1}
                """);
        terms("has a SLOT with it in common", """
                land(0) person(0, {0, 0}) row(0, 48) cell(0, 10, 5) series(1, NONE, 1) option(0, {10, 20}) role(0, 0, 2)
                plan(0, 0, 1, 0) = 0  comes({0, 1}, 0, 0, 0) = {2, 3}
                series(1, NONE, NONE) option(1, {10, 20}) role(1, 0, 1)
                fits(1, 0, {0, 1}, NONE, 0) = {1, 0}                    # with the half to which it comes
                role(1, 0, 0) role(1, 1, 1) fits(1, 0, {0, 1}, NONE, 0) = 0   # the CHAIR comes to both
                """);
    }

    private static void groups() {
        terms("of each group one IS FREE", """
                land(0) person(0, {0, 0, 0, 0}) series(1, NONE, {NONE, NONE}) option({0, 1}, 10)
                role(0, 2, 1) plan(0, 0, 1, 0) = 0
                role(1, {0, 1, 2}, 4) fits(1, 0, 0, NONE, 0) = 1
                busy(0, 10, 11, false) = 0  fits(1, 0, 0, NONE, 1) = 1
                cant(1, 1, 0) = 1  fits(1, 0, 0, NONE, {1, 2}) = {1, 0}      # 0 can't, 1 told CANT, 2 is engaged
                fits(1, 1, 0, NONE, 2) = 1
                role(1, 3, 4) fits(1, 0, 0, NONE, 2) = 1
                role(1, 3, 5) fits(1, 0, 0, NONE, 2) = 0
                role(1, {0, 1, 2}, 5) fits(1, 0, 0, NONE, 2) = 1
                """);
    }

    private static void chains() {
        terms("the CHAIN's meeting (both halves), if it is PLANNED in that WEEK, ends ahead of it or as it begins", """
                land(0) series(2, NONE, NONE) option(0, 10) series(1, 0, NONE) option(1, {0, 9, 10, 11, 12, 13})
                fits(1, {0, 1}, {0..5}, NONE, 0) = 1
                plan(0, 0, 1, 0) = 0
                fits(1, 0, {0..5}, NONE, 0) = {0, 0, 0, 0, 1, 1}
                fits(1, 1, {0..5}, NONE, 0) = 1
                plan(1, 0, 1, 0) = 0  planned(1, 0, 0) = 4
                """);
        terms("the CHAIN's meeting (both halves), if it is PLANNED in that WEEK, ends ahead of it or as it begins", """
                land(0) person(0, 0)
                series(2, NONE, 0) option(0, {20, 10}) plan(0, 0, 1, 0) = 0      # the later half first
                series(2, NONE, 0) option(1, {10, 20}) plan(1, 0, 1, 0) = NONE   # the CHAIR is engaged
                plan(1, 1, 2, 0) = 0                                             # the later half last
                series(1, 0, NONE) option(2, {0, 12, 21, 22}) fits(2, 0, {0..3}, NONE, 0) = {0, 0, 0, 1}
                series(1, 1, NONE) option(3, {0, 12, 21, 22}) fits(3, 1, {0..3}, NONE, 0) = {0, 0, 0, 1}
                fits(2, 1, {0..3}, NONE, 0) = 1  fits(3, 0, {0..3}, NONE, 0) = 1
                """);
        terms("which in the same week has to be over ahead of it, or none", """
                land(0) series(6, NONE, NONE) option(0, {335, 0}) series(1, 0, NONE) option(1, {335, 0, 6})
                plan(0, 0, 1, 0) = 0
                fits(1, {0, 1}, {0, 1, 2}, NONE, 0) = {0, 0, 0, 1, 1, 1}
                plan(0, 51, 52, 0) = 0  planned(0, 51, 0) = 1
                fits(1, 51, {0, 1, 2}, NONE, 0) = {1, 0, 1}
                series(1, 1, NONE) option(2, {0, 20}) plan(1, 51, 52, 0) = 0
                planned(1, 51, 0) = 0  fits(2, 51, {0, 1}, NONE, 0) = 0          # behind SERIES 1, not SERIES 0
                series(1, NONE, NONE) option(3, 0) fits(3, {0, 51}, 0, NONE, 0) = 1
                """);
    }

    private static void comers() {
        terms("WHO comes: all who are MUST, MAY or in a group and are FREE then.", """
                land(0) person(0, {0, 0, 0, 0, 0, 0, 0}) series(1, NONE, {NONE, NONE}) option({0, 1}, 10)
                role(0, 1, 1) role(0, 2, 2) role(0, 3, 3) role(0, 4, 4) role(0, 5, 5) role(0, 6, 3)
                plan(0, 0, 1, 0) = 0  comes({0..6}, 0, 0, 0) = {0, 1, 1, 1, 1, 1, 1}
                busy({1, 2, 3}, 10, 11, false) cant({4, 5}, 0, 0)
                comes({0..6}, 0, 0, 3) = {0, 0, 0, 0, 1, 1, 1}
                comes({0..6}, 0, 0, 5) = {0, 0, 0, 0, 0, 0, 1}
                role(1, {0..6}, 2) plan(1, 0, 1, 5) = 0
                comes({0..6}, 1, 0, 5) = {1, 0, 0, 0, 1, 1, 0}          # 6 is engaged in SERIES 0
                comes({0..6}, 1, 0, 0) = {1, 0, 0, 0, 0, 0, 0}
                """);
    }

    private static void pairs() {
        terms("two OPTIONS, i ahead of j as told, that have no SLOT in common", """
                land(0) person(0, 0) series(3, NONE, 0) option(0, {10, 12, 13, 7, 8, 10})
                fits(0, 0, 0, {-1, 0, 1, 2, 3, 4, 5, 6, MIN, MAX}, 0) = {NONE, NONE, 0, 1, 1, 0, 0, NONE, NONE, NONE}
                fits(0, 0, {1..5}, 0, 0) = NONE
                fits(0, 0, 1, {2..5}, 0) = {0, 1, 1, 0}
                fits(0, 0, 2, {3..5}, 0) = 1
                fits(0, 0, 3, {4, 5}, 0) = {0, 1}
                fits(0, 0, 4, 5, 0) = 0
                fits(0, 0, {-1, 5, 6, MIN, MAX}, {-1, 5, 6}, 0) = NONE
                plan(0, 0, 1, 0) = 0  planned(0, 0, {0, 1}) = {0, 2}
                """);
        terms("A SPLIT one has two OPTIONS", """
                land(0) person(0, 0) series(1, NONE, 0)
                plan(0, 0, 1, 0) = NONE                                 # no OPTION
                option(0, 10) fits(0, 0, 0, {NONE, 0}, 0) = NONE  plan(0, 0, 1, 0) = NONE      # but one
                option(0, 10) fits(0, 0, 0, 1, 0) = 0  plan(0, 0, 1, 0) = NONE                 # in common
                option(0, 11) plan(0, 0, 1, 0) = 0  planned(0, 0, {0..3}) = {0, 2, 10, 11}
                """);
    }

    private static void pairsFitting() {
        terms("it FITS if each MUST IS FREE in one of both at least", """
                land(0) person(0, {0, 0}) series(1, NONE, 1) option(0, {10, 11, 12}) role(0, 0, 1)
                busy(0, 10, 11, false) = 0  busy(0, 11, 12, false) = 1  busy(0, 12, 13, false) = 2
                fits(0, 0, 0, {1, 2}, {0..3}) = {1, 1, 0, 0, 1, 1, 1, 0}
                fits(0, 0, 1, 2, {0..3}) = {1, 1, 1, 0}
                cant(0, 0, 1) = 3  fits(0, 1, 0, 1, {3, 4}) = {1, 0}
                """);
        terms("the CHAIR (whatever its ROLE) in both", """
                land(0) person(0, {0, 0}) series(1, NONE, 1) option(0, {10, 11, 12}) busy(1, 11, 12, false)
                fits(0, 0, 0, {1, 2}, {0, 1}) = {1, 0, 1, 1}  fits(0, 0, 1, 2, {0, 1}) = {1, 0}
                role(0, 1, 1) fits(0, 0, 0, {1, 2}, 1) = {0, 1}
                role(0, 1, 2) fits(0, 0, 0, {1, 2}, 1) = {0, 1}
                role(0, 1, 3) fits(0, 0, 0, {1, 2}, 1) = {0, 1}
                role(0, 1, 4) fits(0, 0, 0, {1, 2}, 1) = {0, 1}
                role(0, 1, 5) fits(0, 0, 0, {1, 2}, 1) = {0, 1}
                role(0, 1, 0) fits(0, 0, 0, {1, 2}, 1) = {0, 1}
                cant(1, 0, 0) = 1  fits(0, {0, 1}, 0, 2, 2) = {0, 1}
                series(1, NONE, NONE) option(1, {10, 11, 12}) role(1, 1, 2)
                plan(1, 2, 3, 2) = 0  fits(0, 2, 0, 1, 2) = 1           # a greater SERIES
                series(1, NONE, 1) option(2, {10, 11, 12}) fits(2, 2, {0, 1}, 2, 2) = {0, 1}
                """);
        terms("of each group one in one of both", """
                land(0) person(0, {0, 0, 0}) series(1, NONE, 2) option(0, {10, 20}) role(0, {0, 1}, 3)
                busy(0, 10, 21, false) = 0  fits(0, 0, 0, 1, 1) = 1
                busy(1, 10, 11, false) = 1  fits(0, 0, 0, 1, 2) = 1
                role(0, 0, 4) fits(0, 0, 0, 1, 2) = 0                   # each group by itself
                role(0, 0, 3) busy(1, 20, 21, false) = 2  fits(0, 0, 0, 1, {2, 3}) = {1, 0}
                role(0, 2, 3) fits(0, 0, 0, 1, 3) = 1                   # the CHAIR, too, is of the group
                """);
        terms("both are so behind the CHAIN", """
                land(0) person(0, 0) series(2, NONE, NONE) option(0, 10) plan(0, 0, 1, 0) = 0
                series(1, 0, 0) option(1, {9, 11, 12, 13, 0, 20})
                fits(1, 0, {0, 1}, {2, 3}, 0) = 0  fits(1, 0, 2, {3, 4, 5}, 0) = {1, 0, 1}  fits(1, 0, 3, {4, 5}, 0) = {0, 1}
                fits(1, 1, {0, 1}, {2, 3}, 0) = 1
                plan(1, 0, 1, 0) = 0  planned(1, 0, {2, 3}) = {12, 13}
                """);
        terms("both are so behind the CHAIN", """
                land(0) person(0, 0) series(2, NONE, NONE) option(0, 10) plan(0, 0, 1, 0) = 0
                series(1, 0, 0) option(1, {13, 12, 11}) fits(1, 0, 0, {1, 2}, 0) = {1, 0}  fits(1, 0, 1, 2, 0) = 0
                """);
    }

    private static void halves() {
        terms("Who comes, and IS FREE in both, comes to the one that COSTS it less (the first, if alike)", """
                land(0) person(0, {0, 0, 0, 0, 0}) row({0..3}, 48) series(2, NONE, 4) option(0, {10, 20}) role(0, {0..3}, 2)
                cell(0, 10, 6) cell(0, 21, 5)
                cell(1, 11, 5) cell(1, 20, 4)
                cell(2, 10, 2) cell(2, 20, 1) cell(2, 21, 1)
                cell(3, 10, 4) cell(3, 20, 5)
                plan(0, 0, 1, 0) = 5  comes({0..3}, 0, 0, 0) = {2, 2, 1, 1}
                sum({0..3}, 0) = {5, 4, 2, 4}
                busy({0, 3}, 20, 21, false) busy({1, 2}, 11, 12, false)
                comes({0..3}, 0, 0, 4) = {1, 2, 2, 1}                   # FREE in one alone
                busy({0, 3}, 10, 11, false) busy({1, 2}, 21, 22, false)
                comes({0..3}, 0, 0, 8) = 0
                """);
        terms("the CHAIR, if it is FREE, to each", """
                land(0) person(0, {0, 0}) row(1, 48) cell(1, 10, 6) cell(1, 20, 5)
                series(1, NONE, 1) option(0, {10, 20}) plan(0, 0, 1, 0) = 11
                comes({0, 1}, 0, 0, 0) = {0, 3}  sum(1, 0) = 11
                role(0, 1, 2) comes(1, 0, 0, 0) = 3  sum(1, 0) = 11
                busy(1, 20, 21, false) = 0  comes(1, 0, 0, 1) = 1  sum(1, 1) = 6
                busy(1, 10, 11, false) = 1  comes(1, 0, 0, 2) = 0  sum(1, 2) = 0
                role(0, 1, 0) comes(1, 0, 0, {0, 1, 2}) = {3, 1, 0}
                """);
    }

    // ---- III

    private static void planLengths() {
        terms("A PLAN of a SERIES for WEEKS a .. b - 1 (6 at most, of a SPLIT one 4)", """
                land(0) person(0, 0) series(1, NONE, {NONE, 0}) option({0, 1}, {10, 20})
                plan(0, 0, {0, 1, 6, 7, 8}, 0) = {-2, 0, 0, -2, -2}  count(4) = 6
                planned(0, {5, 6}, 0) = {0, NONE}
                plan(1, 0, {0, 1, 4, 5, 6}, 0) = {-2, 0, 0, -2, -2}  count(4) = 10
                planned(1, {3, 4}, 0) = {0, NONE}
                plan(0, {45, 46, 51, 52}, 52, 0) = {-2, 0, 0, -2}  count(4) = 16
                plan(1, {47, 48, 51, 52}, 52, 0) = {-2, 0, 0, -2}  count(4) = 20
                """);
        terms("an OPTION (a SPLIT one: a pair) that FITS for each", """
                land(0) person(0, 0) series(1, NONE, {NONE, 0}) option({0, 1}, {10, 20, 30}) role(0, 0, 1)
                busy(0, 10, 11, false) busy(0, 356, 357, false) busy(0, 682, 693, false)
                plan(0, 0, 4, 3) = 0  planned(0, {0..3}, 0) = {1, 0, 2, 0}
                series(1, NONE, 0) option(2, {40, 50, 60})
                busy(0, 50, 51, false) busy(0, 376, 377, false)
                plan(2, 0, 3, 5) = 0  planned(2, {0, 1, 2}, 0) = {0, 1, 0}  planned(2, {0, 1, 2}, 1) = {2, 2, 1}
                """);
    }

    private static void planOrder() {
        terms("the greatest least; of alike ones the second; and so on", """
                land(0) person(0, {0, 0, 0, 0, 0, 0, 0, 0, 0, 0, 0, 0}) row({0..11}, 12)
                series(1, NONE, NONE) option(0, {10, 11}) role(0, {0..11}, 2)
                cell({0..10}, {10, 11}, 5) cell(11, 10, 1)
                plan(0, 0, 1, 0) = 5  planned(0, 0, 0) = 1              # the twelfth tells
                cell(11, 11, 2) plan(0, 0, 1, 0) = 5  planned(0, 0, 0) = 0
                cell(11, 10, 2) plan(0, 0, 1, 0) = 5  planned(0, 0, 0) = 0     # all alike
                cell(3, 10, 6) plan(0, 0, 1, 0) = 5  planned(0, 0, 0) = 1      # the greatest tells
                cell(7, 11, 6) plan(0, 0, 1, 0) = 6  planned(0, 0, 0) = 0      # whoever it is
                cell(0, {10, 11}, {0}) cell(1, 11, 0) plan(0, 0, 1, 0) = 6  planned(0, 0, 0) = 1
                """);
        terms("whose SUMS, the greatest first, come first in order", """
                land(0) person(0, {0, 0}) row({0, 1}, 48) series(1, NONE, NONE) option(0, {10, 11}) role(0, {0, 1}, 2)
                cell(0, 10, 4) cell({0, 1}, 11, 3)
                plan(0, 0, 1, 0) = 3  planned(0, 0, 0) = 1  sum({0, 1}, 0) = 3     # 3 and 3, not 4 and 0
                plan(0, 0, 2, 0) = 6  planned(0, {0, 1}, 0) = 1
                plan(0, 0, 3, 0) = 9  cell(0, 10, 1) cell(0, 11, 0) cell(1, 11, 1)
                plan(0, 0, 2, 0) = 1  planned(0, {0, 1}, 0) = {0, 1}
                plan(0, 0, 6, 0) = 3  planned(0, {0..5}, 0) = {0, 0, 0, 1, 1, 1}
                """);
        terms("A PERSON's SUM there is what those of its meetings to which it comes cost it", """
                land(0) person(0, {0, 0}) row({0, 1}, 48) cell({0, 1}, {10, 20}, {9}) cell(0, 20, 8)
                series(1, NONE, NONE) option(0, {10, 20}) role(0, 0, 2)
                plan(0, 0, 1, 0) = 8  planned(0, 0, 0) = 1              # 1 does not come, and does not pay
                busy(0, 10, 11, false) = 0  plan(0, 0, 1, 1) = 0  planned(0, 0, 0) = 0     # 0 neither
                plan(0, 1, 2, 1) = 8
                series(1, NONE, NONE) option(1, {20, 10}) role(1, 0, 2)
                plan(1, 0, 2, 1) = 0  planned(1, {0, 1}, 0) = {1, 0}    # engaged in SERIES 0, or busy
                """);
        terms("Of all PLANS that one", """
                land(0) person(0, {0, 0}) row({0, 1}, 48) cell(0, 10, 3) cell(1, 20, 3) cell({0, 1}, 30, 2)
                series(1, NONE, NONE) option(0, {10, 20, 30}) role(0, {0, 1}, 1)
                plan(0, 0, 1, 0) = 2  planned(0, 0, 0) = 2                       # 2 and 2
                plan(0, 0, 2, 0) = 3  planned(0, {0, 1}, 0) = {0, 1}             # 3 and 3
                plan(0, 0, 3, 0) = 5  planned(0, {0..2}, 0) = {0, 1, 2}          # 5 and 5
                plan(0, 0, 4, 0) = 6  planned(0, {0..3}, 0) = {0, 0, 1, 1}       # 6 and 6
                plan(0, 0, 5, 0) = 8  planned(0, {0..4}, 0) = {0, 0, 1, 1, 2}    # 8 and 8
                busy(0, 2*336+20, 2*336+31, false) = 0                           # WEEK 2 has but the first
                plan(0, 0, 3, 1) = 5  planned(0, {0..2}, 0) = {1, 2, 0}
                busy(0, 10, 11, false) = 1  busy(0, 30, 31, false) = 2           # WEEK 0 has but the second
                plan(0, 0, 4, 3) = 6  planned(0, {0..3}, 0) = {1, 0, 0, 1}
                plan(0, 0, 6, 3) = 9  planned(0, {0..5}, 0) = {1, 0, 0, 0, 1, 1}
                """);
        terms("of alike ones the first by the first WEEK's OPTION", """
                land(0) person(0, {0, 0}) row({0, 1}, 48) cell(0, 10, 4) cell(1, 12, 4)
                series(1, NONE, NONE) option(0, {10, 12, 10, 12}) role(0, {0, 1}, 2)
                plan(0, 0, 1, 0) = 4  planned(0, 0, 0) = 0
                plan(0, 0, 2, 0) = 4  planned(0, {0, 1}, 0) = {0, 1}
                plan(0, 0, 3, 0) = 8  planned(0, {0..2}, 0) = {0, 0, 1}
                cant(0, 0, 0) = 0  plan(0, 0, 1, 1) = 0  planned(0, 0, 0) = 0
                plan(0, 0, 2, 1) = 4  planned(0, {0, 1}, 0) = 0
                cant(1, 0, 2) = 1  plan(0, 1, 3, 2) = 4  planned(0, {1, 2}, 0) = {0, 1}
                """);
    }

    private static void planOrderOfPairs() {
        terms("(pairs: i, then j)", """
                land(0) person(0, 0) series(1, NONE, 0) option(0, {10, 20, 30, 40})
                plan(0, 0, 4, 0) = 0  planned(0, {0..3}, 0) = 0  planned(0, {0..3}, 1) = 1
                busy(0, 20, 21, false) = 0  plan(0, 0, 2, 1) = 0
                planned(0, {0, 1}, 0) = 0  planned(0, {0, 1}, 1) = {2, 1}      # i stays, j is the next
                busy(0, 10, 11, false) = 1  plan(0, 0, 2, 2) = 0
                planned(0, {0, 1}, 0) = {2, 0}  planned(0, {0, 1}, 1) = {3, 1}
                """);
        terms("then the second's, and so on", """
                land(0) person(0, {0, 0, 0}) row({0, 1}, 48) cell(0, {10, 30}, {4}) cell(1, {20, 40}, {4})
                series(1, NONE, 2) option(0, {10, 20, 12, 30}) role(0, {0, 1}, 2)
                plan(0, 0, 2, 0) = 0  planned(0, {0, 1}, 0) = 0  planned(0, {0, 1}, 1) = 1    # each has a half for nothing
                cell({0, 1}, {10, 20, 12}, 4) cell(0, 30, 4) cell(1, 30, 3)
                plan(0, 0, 4, 0) = 16  planned(0, {0..3}, 0) = 0  planned(0, {0..3}, 1) = 3   # 16 and 12
                """);
    }

    private static void stuckOnes() {
        terms("If in a WEEK nothing FITS there is none", """
                land(0) person(0, 0) series(1, NONE, NONE) option(0, {10, 20}) role(0, 0, 1)
                plan(0, 0, 3, 0) = 0
                busy(0, 10, 11, false) = 0  cant(0, 0, 1) = 1
                plan(0, 0, 2, 2) = NONE  plan(0, 1, 3, 2) = NONE  plan(0, 0, 3, 2) = NONE  plan(0, 1, 2, 2) = NONE
                planned(0, {0, 1, 2}, 0) = 0  count(4) = 3              # all stays as it was
                plan(0, 0, 1, 2) = 0  planned(0, {0, 1, 2}, 0) = {1, 0, 0}
                """);
        terms("then the STUCK are of the first such WEEK", """
                land(0) person(0, {0, 0, 0}) series(1, NONE, NONE) option(0, 10) role(0, {0, 1, 2}, 1)
                cant(2, 0, 1) = 0  cant({0, 1}, 0, 2) = {1, 2}  cant(1, 0, 3) = 3
                plan(0, 0, 4, 4) = NONE  stuck({0, 1}) = {2, NONE}
                plan(0, 2, 4, 4) = NONE  stuck({0, 1}) = {0, NONE}
                plan(0, 3, 5, 4) = NONE  stuck({0, 1}) = {1, NONE}
                """);
        terms("the fewest MUST (and the CHAIR) ones", """
                land(0) person(0, {0, 0, 0, 0, 0, 0, 0}) series(1, NONE, NONE) option(0, {10, 11, 12, 13, 14, 15})
                role(0, {0..6}, 1)
                busy(0, 10, 11, false) busy(1, 11, 12, false) busy(2, 12, 13, false)
                busy(3, 13, 14, false) busy(4, 14, 15, false) busy(5, 15, 16, false)
                plan(0, 0, 1, 5) = 0  plan(0, 0, 1, 6) = NONE  stuck({-1, 0, 1, 2, 3, 4, 5, 6}) = {NONE, 0, 1, 2, 3, 4, 5, NONE}
                busy(6, 10, 12, false) plan(0, 0, 1, 7) = NONE  stuck({0..5}) = {2, 3, 4, 5, 6, NONE}
                busy(6, 13, 15, false) plan(0, 0, 1, 8) = NONE  stuck({0..3}) = {2, 5, 6, NONE}
                busy(0, 12, 16, false) plan(0, 0, 1, 9) = NONE  stuck({0..2}) = {0, 1, NONE}
                cant(3, 0, 0) plan(0, 0, 1, 10) = NONE  stuck({0, 1}) = {3, NONE}
                """);
        terms("the fewest MUST (and the CHAIR) ones", """
                land(0) person(0, {0, 0, 0, 0, 0, 0, 0, 0, 0, 0, 0, 0}) series(1, NONE, {NONE, 11}) option({0, 1}, {10, 11, 12, 13, 14, 15})
                role({0, 1}, {0..11}, 1)                                # all twelve
                busy({0, 6}, 10, 11, false) busy({1, 7}, 11, 12, false) busy({2, 8}, 12, 13, false)
                busy({3, 9}, 13, 14, false) busy({4, 10}, 14, 15, false) busy({5, 11}, 15, 16, false)
                plan(0, 0, 1, 12) = NONE  stuck({0..6}) = {0, 1, 2, 3, 4, 5, NONE}
                busy(11, 10, 13, false) plan(0, 0, 1, 13) = NONE  stuck({0..3}) = {3, 4, 11, NONE}
                busy(11, 13, 14, false) plan(0, 0, 1, 14) = NONE  stuck({0..2}) = {4, 11, NONE}
                plan(1, 0, 1, 12) = 0  plan(1, 0, 1, 13) = 0  planned(1, 0, {0, 1}) = {3, 4}
                plan(1, 0, 1, 14) = NONE  stuck({0..1}) = {11, NONE}
                """);
        terms("of as few the first by their least numbers, then the next", """
                land(0) person(0, {0, 0, 0, 0, 0}) series(1, NONE, NONE) option(0, {10, 11}) role(0, {0..4}, 1)
                busy({1, 2}, 10, 11, false) busy({3, 4}, 11, 12, false)
                plan(0, 0, 1, 4) = NONE  stuck({0, 1, 2}) = {1, 3, NONE}
                busy(0, 11, 12, false) plan(0, 0, 1, 5) = NONE  stuck({0, 1, 2}) = {0, 1, NONE}
                busy(4, 10, 11, false) busy(3, 10, 11, false) plan(0, 0, 1, 6) = NONE  stuck({0, 1}) = {4, NONE}
                plan(0, 0, 1, 7) = NONE  stuck({0, 1}) = {3, NONE}
                """);
    }

    private static void stuckOnesAlone() {
        terms("by whom alone (all others, groups, CHAIN left out) nothing FITS", """
                land(0) person(0, {0, 0, 0}) series(1, NONE, NONE) option(0, 20) plan(0, 0, 1, 0) = 0
                series(1, 0, NONE) option(1, {10, 30, 31}) role(1, 0, 1) role(1, 1, 2) role(1, 2, 3)
                busy(0, 30, 32, false) = 0
                plan(1, 0, 1, 1) = NONE  stuck(0) = NONE                # 10 is but ahead of the CHAIN
                busy(2, 10, 11, false) = 1  plan(1, 1, 2, 2) = 0  plan(1, 0, 1, 2) = NONE  stuck(0) = NONE
                busy(0, 10, 11, false) = 2  plan(1, 0, 1, 3) = NONE  stuck({0, 1}) = {0, NONE}
                busy(1, 0, 336, false) = 3  plan(1, 0, 1, 4) = NONE  stuck({0, 1}) = {0, NONE}
                """);
        terms("none, if it does with all of these", """
                land(0) person(0, {0, 0}) series(1, NONE, NONE) option(0, 10) role(0, 0, 1) role(0, 1, 3)
                cant(1, 0, 0) = 0  cant(0, 0, 1) = 1
                plan(0, 1, 2, 2) = NONE  stuck({0, 1}) = {0, NONE}
                plan(0, 0, 1, 2) = NONE  stuck({0, 1}) = NONE           # by the group
                """);
        terms("none, if it does with all of these", """
                land(0) person(0, {0, 0}) row({0, 1}, 1) cell({0, 1}, 0, -1)
                series(2, NONE, NONE) role(0, {0, 1}, 1) plan(0, 0, 1, 0) = NONE  stuck(0) = NONE    # no OPTION: nobody is needed
                option(0, 335) plan(0, 51, 52, 0) = NONE  stuck(0) = NONE                            # none of the 52 WEEKS
                plan(0, 50, 51, 0) = NONE  stuck({0, 1}) = {0, NONE}
                series(2, NONE, 1) option(1, {10, 11}) plan(1, 0, 1, 0) = NONE  stuck(0) = NONE      # no pair
                option(1, 12) plan(1, 0, 1, 0) = NONE  stuck({0, 1}) = {1, NONE}
                """);
        terms("the fewest MUST (and the CHAIR) ones", """
                land(0) person(0, {0, 0, 0, 0}) series(1, NONE, 2) option(0, {10, 20, 30}) role(0, {0, 3}, 1)
                busy(2, 10, 11, false) = 0
                plan(0, 0, 1, 1) = 0  planned(0, 0, {0, 1}) = {1, 2}
                busy(3, 20, 31, false) = 1
                plan(0, 0, 1, 2) = NONE  stuck({0, 1, 2}) = {2, 3, NONE}       # the CHAIR in both, the MUST in one
                busy(2, 20, 21, false) = 2
                plan(0, 0, 1, 3) = NONE  stuck({0, 1}) = {2, NONE}
                role(0, 2, 1) plan(0, 0, 1, 3) = NONE  stuck({0, 1}) = {2, NONE}
                cant(0, 0, 0) = 3  plan(0, 0, 1, 4) = NONE  stuck({0, 1}) = {0, NONE}
                series(1, NONE, NONE) option(1, 10) role(1, 1, 1) plan(1, 5, 6, 4) = 0
                series(1, NONE, NONE) option(2, 10) role(2, {0, 1}, 1) plan(2, 5, 6, 4) = NONE  stuck({0, 1}) = {1, NONE}   # engaged
                """);
    }

    private static void plannedOnes() {
        terms("When a PLAN is found, it is PLANNED: in place of what the SERIES had in these WEEKS", """
                land(0) person(0, 0) series(1, NONE, NONE) option(0, {10, 20}) role(0, 0, 1)
                plan(0, 0, 4, 0) = 0  row(0, 48) cell(0, 10, 1)
                plan(0, 1, 3, 0) = 0  planned(0, {0..4}, 0) = {0, 1, 1, 0, NONE}  count(4) = 4
                """);
        terms("in place of what the SERIES had in these WEEKS", """
                land(0) person(0, 0) row(0, 48) series(1, NONE, {NONE, NONE}) option({0, 1}, {10, 20}) role({0, 1}, 0, 1)
                plan(0, 0, 1, 0) = 0  fits(1, 0, {0, 1}, NONE, 0) = {0, 1}
                cell(0, 10, 1) plan(0, 0, 1, 0) = 0  fits(1, 0, {0, 1}, NONE, 0) = {1, 0}      # the old SLOT is free again
                cell(0, 10, 0) cell(0, 20, 1) plan(0, 0, 1, 0) = 0  fits(1, 0, {0, 1}, NONE, 0) = {0, 1}
                """);
        terms("(SERIES of greater numbers stay as they are.)", """
                land(0) person(0, 0) series(1, NONE, {NONE, NONE}) option({0, 1}, 10) role({0, 1}, 0, 1)
                plan(1, 0, 1, 0) = 0  comes(0, 1, 0, 0) = 1
                plan(0, 0, 1, 0) = 0  count(4) = 2
                planned({0, 1}, 0, 0) = 0  comes(0, {0, 1}, 0, 0) = {1, 0}  fits({0, 1}, 0, 0, NONE, 0) = {1, 0}
                series(1, 1, NONE) option(2, 11) plan(2, 0, 1, 0) = 0
                option(1, 20) busy(0, 346, 347, false) = 0  plan(1, 1, 2, 1) = 0  plan(2, 1, 2, 1) = NONE
                plan(2, 1, 2, 0) = NONE  option(2, 21) plan(2, 1, 2, 1) = 0  planned(2, {0, 1}, 0) = {0, 1}
                """);
    }

    private static void moves() {
        terms("A MOVE of a WEEK: all SERIES that are PLANNED in it are given OPTIONS (pairs) anew", """
                land(0) person(0, 0) series(1, NONE, {NONE, NONE, 0, NONE}) option({0, 1}, {10, 20, 30})
                option(2, {40, 50, 60}) option(3, {70, 80})
                plan({0, 2, 3}, 0, 2, 0) = 0  role({0, 3}, 0, 1)
                busy(0, 10, 11, false) busy(0, 50, 51, false) busy(0, 70, 71, false)
                move(0, 3) = 3
                planned({0..3}, 0, 0) = {1, NONE, 0, 1}  planned(2, 0, 1) = 2       # SERIES 1 stays without
                planned({0..3}, 1, 0) = {0, NONE, 0, 0}  planned(2, 1, 1) = 1       # another WEEK stays
                count(4) = 6
                """);
        terms("so that, SERIES by SERIES, each FITS (with those ahead)", """
                land(0) person(0, 0) series(1, NONE, NONE) series(1, 0, {NONE, NONE})
                option(0, {10, 20}) option(1, {11, 21, 20, 22}) option(2, {15, 25, 22, 21}) role({0, 2}, 0, 2)
                plan({0, 1, 2}, 0, 1, 0) = 0
                role(0, 0, 1) busy(0, 10, 11, false) = 0
                move(0, 1) = 3  planned({0, 1, 2}, 0, 2) = {20, 21, 25}
                move(0, 1) = 0  planned({0, 1, 2}, 0, 2) = {20, 21, 25}
                """);
        terms("SERIES by SERIES, each FITS (with those ahead)", """
                land(0) person(0, 0) row(0, 48) cell(0, 40, 9) series(1, NONE, NONE) series(1, 0, NONE)
                option(0, {10, 40, 12}) option(1, {11, 14, 41}) role(0, 0, 1) plan({0, 1}, 0, 1, 0) = 0
                busy(0, 10, 11, false) = 0  move(0, 1) = 2  planned({0, 1}, 0, 2) = {12, 14}   # 40 and 41 were dearer
                """);
        terms("if it is PLANNED in that WEEK", """
                land(0) series(1, NONE, NONE) series(1, 0, NONE) option(0, 20) option(1, {10, 30})
                plan(1, 0, 2, 0) = 0  plan(0, 1, 2, 0) = 0
                move(1, 0) = 1  planned(1, {0, 1}, 0) = {0, 1}
                move(0, 0) = 0  planned(1, {0, 1}, 0) = {0, 1}                                  # no CHAIN in WEEK 0
                """);
        terms("of all ways that by which the fewest SERIES have others than now", """
                land(0) person(0, 0) row(0, 48) series(1, NONE, {NONE, NONE, NONE})
                option(0, {10, 12, 14, 16}) option(1, {12, 13}) option(2, {14, 15}) role({0, 1, 2}, 0, 1)
                plan({0, 1, 2}, 0, 1, 0) = 0  planned({0, 1, 2}, 0, 2) = {10, 12, 14}
                cell(0, 16, 100) cell(0, {10, 12, 14}, 3)
                move(0, 0) = 0  planned({0, 1, 2}, 0, 2) = {10, 12, 14}                # though dearer
                busy(0, 10, 11, false) = 0  move(0, 1) = 1  planned({0, 1, 2}, 0, 2) = {16, 12, 14}
                busy(0, 16, 17, false) = 1  move(0, 2) = 2  planned({0, 1, 2}, 0, 2) = {12, 13, 14}
                busy(0, 12, 13, false) = 2  move(0, 3) = 2  planned({0, 1, 2}, 0, 2) = {14, 13, 15}
                busy(0, 14, 15, false) = 3  move(0, 4) = NONE  planned({0, 1, 2}, 0, 2) = {14, 13, 15}
                """);
        terms("have others than now", """
                land(0) person(0, {0, 0}) series(1, NONE, {NONE, NONE, NONE, NONE}) option({0..3}, {10, 20, 30, 40, 50})
                plan({0..3}, 0, 1, 0) = 0  planned({0..3}, 0, 0) = 0
                role({0..3}, 0, 1) move(0, 0) = 3  planned({0..3}, 0, 0) = {0, 1, 2, 3}
                busy(0, {10, 20, 30, 40}, 41, false) = {0..3}
                move(0, {0, 4}) = {0, NONE}
                role({0..2}, 0, 0) role({0..3}, 1, 1) busy(1, 10, 51, true) = 4  cant(1, {1, 2, 3}, 1) = {5, 6, 7}
                move(0, 8) = NONE  move(0, 4) = 1  planned({0..3}, 0, 0) = {0, 1, 2, 4}
                """);
        terms("are given OPTIONS (pairs) anew", """
                land(0) person(0, 0) series(1, NONE, {NONE, NONE, NONE, NONE}) option({0..3}, {10, 20, 30, 40, 50, 60})
                plan({0..3}, 0, 1, 0) = 0  role({0..3}, 0, 1) move(0, 0) = 3  planned({0..3}, 0, 0) = {0, 1, 2, 3}
                busy(0, 10, 11, false) = 0  move(0, 1) = 1  planned({0..3}, 0, 0) = {4, 1, 2, 3}
                busy(0, 20, 41, false) = 1  move(0, 2) = NONE  planned({0..3}, 0, 0) = {4, 1, 2, 3}
                """);
    }

    private static void movesInOrder() {
        terms("of these that whose SUMS of the WEEK alone, the greatest first, come first", """
                land(0) person(0, {0, 0}) row({0, 1}, 48) series(1, NONE, {NONE, NONE}) option(0, {10, 20, 30}) option(1, {40, 41})
                role(0, {0, 1}, 1) role(1, 0, 2)
                plan({0, 1}, 0, 6, 0) = 0
                cell(0, 20, 5) cell(1, 30, 4) cell(0, 40, 0)
                busy({0, 1}, 10, 11, false) = {0, 1}
                move(0, 2) = 1  planned(0, 0, 0) = 2                    # 4, not 5
                cell(0, 40, 3) cell(1, 40, 9)
                cell(1, 20, 4) cell(1, 30, 5) cell(0, 20, 0) cell(0, 30, 0)
                busy({0, 1}, 346, 347, false) = {2, 3}
                move(1, 4) = 1  planned(0, 1, 0) = 1                    # 4 and 3, not 5 and 3
                cell(0, 10, 100) move(2, 4) = 0                         # what else is PLANNED for it does not count
                busy(1, 682, 683, false) = 4  move(2, 5) = 1  planned(0, 2, 0) = 1
                """);
        terms("that whose SUMS of the WEEK alone, the greatest first, come first", """
                land(0) person(0, {0, 0, 0}) row({0, 1, 2}, 48) series(1, NONE, {NONE, NONE}) option({0, 1}, {10, 20, 30})
                plan({0, 1}, 0, 2, 0) = 0  role({0, 1}, {0, 1, 2}, 1)   # one of both has to leave 10
                cell(0, 20, 7) cell(1, 30, 7) cell(2, {10, 20}, {1})
                move(0, 0) = 1  planned({0, 1}, 0, 0) = {0, 2}          # 7 and 1, not 7 and 2
                cell(2, 30, 1) move(1, 0) = 1  planned({0, 1}, 1, 0) = {0, 1}      # alike: SERIES 0's first, then SERIES 1's
                """);
        terms("of these the first by SERIES 0's OPTION, then 1's, and so on", """
                land(0) person(0, {0, 0, 0}) series(1, NONE, {NONE, NONE, 2}) option({0, 1}, {10, 20, 30}) option(2, {40, 50, 60, 70})
                plan({0, 1, 2}, 0, 1, 0) = 0  role(0, 0, 1) role(1, 1, 1)
                busy({0, 1}, 10, 11, false) busy(2, 50, 51, false)
                move(0, 3) = 3  planned({0, 1, 2}, 0, 0) = {1, 1, 0}  planned(2, 0, 1) = 2
                role(1, 0, 1) move(0, 3) = 1  planned({0, 1, 2}, 0, 0) = {1, 2, 0}     # SERIES 0 has the lesser
                """);
    }
}
