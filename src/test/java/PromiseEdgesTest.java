/** The sentences of the promises: what each call takes last and refuses first, and what it answers where nothing is. */
public final class PromiseEdgesTest {
    private static Sentences all;

    public static void main(String[] args) throws Exception {
        all = new Sentences();
        newObject();
        landsAndPersons();
        rowsAndCells();
        changesAndFeasts();
        busyAndCant();
        seriesOptionsRoles();
        localTimes();
        slotsOfLocalTimes();
        canAndCost();
        spans();
        fitting();
        plans();
        stuckOnes();
        moves();
        plannedOnes();
        comers();
        sums();
        shiftedOnes();
        counts();
        for (int promise = 1; promise <= 26; promise++) all.mustAllBeQuoted(promise);
        all.end();
    }

    private static void newObject() {
        all.holds(1, "Nothing is there.", """
                count({0..4}) = 0
                person(0, 0) = NONE  row(0, {NONE, 1}) = false  cell(0, 0, 0) = false
                change(0, 0, 0) = NONE  feast(0, 0) = NONE  busy(0, 0, 1, false) = NONE  cant(0, 0, 0) = NONE
                series(1, 0, NONE) = NONE  series(1, NONE, 0) = NONE  option(0, 0) = NONE  role(0, 0, {0, 1}) = false
                local(0, 0, 0, {0..3}) = -1000000  when(0, 0, 0, 0, {0, 1, 2}) = NONE
                can(0, 0, 1, 0) = NONE  cost(0, 0, 1, 0) = NONE  span(0, 0, 0) = NONE
                fits(0, 0, 0, NONE, 0) = NONE  plan(0, 0, 1, 0) = -2  stuck({-1, 0, 1}) = NONE
                move({0, 51}, 0) = 0  move({0, 51}, 1) = -2
                planned(0, 0, {0..3}) = NONE  comes(0, 0, 0, 0) = NONE  sum(0, 0) = NONE
                shifted(0, {0, 1}) = {0, NONE}
                count({0..4}) = 0
                """);
    }

    private static void landsAndPersons() {
        all.holds(2, "A LAND: its number.", "land({5, 5, -3}) = {0, 1, 2}  local({0, 1, 2}, 0, 0, 3) = {5, 5, -3}  count(0) = 3");
        all.holds(2, "NONE, and nothing happens: 8 are there, no such OFFSET.", """
                land({-25, 29, 100, -100, MIN, MAX}) = NONE  count(0) = 0
                land({-24, 28}) = {0, 1}  land({-25, 29}) = NONE  land({1, 2, 3, 4, 5}) = {2..6}
                count(0) = 7  land(29) = NONE  land(6) = 7  land({-25, -24, 0, 28, 29}) = NONE
                count(0) = 8  local({0..7}, 0, 0, 3) = {-24, 28, 1, 2, 3, 4, 5, 6}
                """);
        all.holds(3, "A PERSON: its number; COSTS MISSING.", """
                land({0, 1}) person(1, {0, 127}) = {0, 1}
                cost(0, {0, 17466}, 6, 0) = 0  can(0, 0, 6, 0) = 0  can(1, 0, 6, 0) = 2  cell(0, {0, 47}, 1) = false
                """);
        all.holds(3, "NONE, and nothing happens: 12 are there, no such LAND, off not 0 .. 127.", """
                person({-1, 0, 1}, 0) = NONE
                land({0, 3}) person({-1, 2, 8, MIN, MAX}, 0) = NONE  person(0, {-1, 128, 255, 256, MIN, MAX}) = NONE
                count(1) = 0
                person(1, {0, 127, 0, 0, 0, 0, 0, 0, 0, 0, 0}) = {0..10}  person(2, 0) = NONE  person(0, 128) = NONE
                person(0, 64) = 11  person({0, 1}, {0, 127}) = NONE  count(1) = 12
                can(11, {287, 288}, 1, 0) = {0, 2}
                """);
    }

    private static void rowsAndCells() {
        all.holds(4, "COSTS of a PERSON become a row of n (1 .. 48) 0s", """
                land(0) person(0, {0, 0})
                row(0, 48) = true  cell(0, {0..47}, 3) = true  cell(0, 48, 3) = false
                row(0, 48) = true  cost(0, {0, 42}, 6, 0) = 0                    # 0s, whatever was there
                cell(0, 0, -1) row(0, 1) = true  can(0, {0, 1}, 1, 0) = 0  cell(0, {0, 1}, 2) = {true, false}
                cost(0, 20, 1, 0) = 2  row(0, 2) = true  cost(0, {0, 1, 20}, 1, 0) = 0  cell(0, {0, 1, 2}, 0) = {true, true, false}
                cell(1, 0, 0) = false                                            # of that PERSON alone
                """);
        all.holds(4, "n NONE: MISSING: true", """
                land(0) person(0, 0) row(0, NONE) = true  row(0, 3) cell(0, {0, 1, 2}, 9) cost(0, 0, 3, 0) = 27
                row(0, NONE) = true  cost(0, 0, 3, 0) = 0  cell(0, {0, 2}, 9) = false
                row(0, 3) = true  cost(0, 0, 3, 0) = 0                           # the old cells do not come again
                """);
        all.holds(4, "false for others", """
                land(0) row(0, 1) = false  person(0, 0) row(0, 2) cell(0, 1, 5)
                row(0, {0, -2, 49, 256, MIN, MAX}) = false  row({-1, 1, 12, MIN, MAX}, {NONE, 1, 48}) = false
                cost(0, {0, 1, 47}, 1, 0) = {0, 5, 5}  cell(0, 2, 1) = false
                """);
        all.holds(5, "Cell i of them becomes v (-1 .. 100): true", """
                land(0) person(0, {0, 0}) row({0, 1}, 48) = true
                cell(0, {0, 47}, {-1, 0, 100}) = true  cost(0, {0, 47}, 1, 0) = 100  cost(1, {0, 47}, 1, 0) = 0
                cost(0, 47, 2, 0) = 200
                """);
        all.holds(5, "false: there is none such, or another v", """
                land(0) person(0, 0) cell(0, 0, 1) = false                       # MISSING
                row(0, 1) cell(0, {-1, 0, 1, 47, MIN, MAX}, 7) = {false, true, false, false, false, false}
                row(0, 48) cell(0, {-1, 0, 47, 48, MIN, MAX}, 7) = {false, true, true, false, false, false}
                cell(0, 47, {-2, 101, 127, 128, 255, 256, 263, MIN, MAX}) = false
                cell({-1, 1, 12, MIN, MAX}, 47, 8) = false
                cost(0, {0, 1, 46, 47}, 1, 0) = {7, 0, 0, 7}
                """);
    }

    private static void changesAndFeasts() {
        all.holds(6, "A CHANGE: its FACT's number.", """
                land(0) feast(0, 0) = 0  change(0, 10, 1) = 1  change(0, 10, 1) = 2  count(2) = 3
                """);
        all.holds(6, "NONE, and nothing happens: 400 are there, no such LAND, SLOT, OFFSET.", """
                land({0, 5}) change({-1, 2, 8, MIN, MAX}, 10, 1) = NONE  change(0, {-1, 17472, MIN, MAX}, 1) = NONE
                change(0, 10, {-25, 29, MIN, MAX}) = NONE  count(2) = 0  local({0, 1}, {10, 17471}, 0, 3) = {0, 0, 5, 5}
                change(0, {0..199}, {-24, 28}) = {0..399}
                change(0, 0, 3) = NONE  count(2) = 400  local(0, {0, 199}, {0, 1, 2, 399, 400}, 3) = {0, -24, 28, 28, 28, 0, -24, 28, -24, 28}
                """);
        all.holds(7, "A FEAST (local day 0 .. 363): its FACT's number.", """
                land(0) person(0, 0) feast(0, {-1, 0, 363, 364, MIN, MAX}) = {NONE, 0, 1, NONE, NONE, NONE}
                feast(0, 363) = 2  can(0, {0, 47, 48, 17423, 17424, 17471}, 1, 3) = {3, 3, 0, 0, 3, 3}
                """);
        all.holds(7, "NONE, and nothing happens: 400 are there, no such LAND, day.", """
                land({0, 0}) person({0, 1}, 0) feast({-1, 2, 8, MIN, MAX}, 0) = NONE  feast(1, {-1, 364, MIN, MAX}) = NONE  count(2) = 0
                can({0, 1}, 0, 1, 0) = 0  feast(1, {0..363}) = {0..363}  feast(1, {0..35}) = {364..399}  feast(0, 0) = NONE
                count(2) = 400  can({0, 1}, {0, 17471}, 1, 400) = {0, 0, 3, 3}
                """);
    }

    private static void busyAndCant() {
        all.holds(8, "A BUSY span: its FACT's number.", """
                land(0) person(0, 0) busy(0, 0, 17472, false) = 0  busy(0, 0, 17472, false) = 1
                can(0, {0, 17471}, 1, {0, 1}) = {0, 4, 0, 4}
                """);
        all.holds(8, "no such PERSON, a not 0 .. b - 1, b above 17472", """
                land(0) person(0, 0)
                busy({-1, 1, 12, MIN, MAX}, 0, 1, false) = NONE
                busy(0, {-1, 0, 4, 5, 6, MIN, MAX}, 5, false) = {NONE, 0, 1, NONE, NONE, NONE, NONE}
                busy(0, {0, 17471}, {17472, 17473, MAX}, true) = {2, NONE, NONE, 3, NONE, NONE}
                busy(0, {17472, 17473, MAX}, {17472, 17473, 17474, MAX}, true) = NONE
                busy(0, {MIN, -1, 0, 1, MAX}, {MIN, -1, 0}, true) = NONE         # b - 1 wraps around at MIN
                count(2) = 4
                """);
        all.holds(8, "NONE, and nothing happens: 400 are there", """
                land(0) person(0, {0, 0}) busy(0, 5, {6..405}, false) = {0..399}  busy({0, 1}, 0, 1, {false, true}) = NONE
                count(2) = 400  can({0, 1}, {0, 5, 404, 405}, 1, 400) = {0, 4, 4, 0, 0, 0, 0, 0}
                span(0, {4, 5, 404, 405}, 400) = {NONE, 399, 399, NONE}
                """);
        all.holds(9, "A CANT: its FACT's number.", """
                land(0) person(0, 0) series(1, NONE, NONE) cant(0, 0, {0, 51, 51}) = {0, 1, 2}
                """);
        all.holds(9, "NONE, and nothing happens: 400 are there, no such PERSON, SERIES, WEEK.", """
                land(0) person(0, 0) cant(0, {-1, 0}, 0) = NONE  series(1, NONE, NONE) option(0, 5) role(0, 0, 1)
                cant({-1, 1, 12, MIN, MAX}, 0, 0) = NONE  cant(0, {-1, 1, 4, MIN, MAX}, 0) = NONE  cant(0, 0, {-1, 52, MIN, MAX}) = NONE
                count(2) = 0  fits(0, {0, 51}, 0, NONE, 0) = 1
                busy(0, 0, {1..400}, false) cant(0, 0, 3) = NONE  count(2) = 400  fits(0, 3, 0, NONE, 400) = 1
                """);
    }

    private static void seriesOptionsRoles() {
        all.holds(10, "A SERIES: its number; without OPTIONS, ROLES all 0.", """
                land(0) person(0, {0, 0}) series(1, NONE, NONE) = 0  fits(0, 0, {-1, 0, 1}, NONE, 0) = NONE
                busy({0, 1}, 0, 17472, false) option(0, 0) = 0  fits(0, 0, 0, NONE, 2) = 1  plan(0, 0, 1, 0) = 0
                comes({0, 1}, 0, 0, 0) = 0  planned(0, {1, 51}, 0) = NONE
                """);
        all.holds(10, "NONE, and nothing happens: 4 are there, no such LENGTH, chain (NONE: none), chair (NONE: it is not SPLIT).", """
                land(0) person(0, {0, 0})
                series({-1, 0, 7, 8, MIN, MAX}, NONE, NONE) = NONE
                series(1, {-2, 0, 1, MIN, MAX}, NONE) = NONE  series(1, NONE, {-2, 2, 12, MIN, MAX}) = NONE
                count(3) = 0  option(0, 0) = NONE
                series(6, NONE, 1) = 0  series(1, 1, NONE) = NONE  series(1, 0, 0) = 1  series(0, 1, 1) = NONE
                series(1, {NONE, 1}, NONE) = {2, 3}  series({1, 6}, {NONE, 3}, {NONE, 0}) = NONE  count(3) = 4
                option({0..4}, 0) = {0, 0, 0, 0, NONE}
                """);
        all.holds(11, "An OPTION more of a SERIES: its number.", """
                series(1, NONE, {NONE, NONE}) option(0, {0, 335}) = {0, 1}  option(1, 7) = 0  option(0, 0) = 2
                fits({0, 1}, 0, {0, 1, 2, 3}, NONE, 0) = {1, 1, 1, NONE, 1, NONE, NONE, NONE}
                """);
        all.holds(11, "NONE, and nothing happens: 6 are there, no such SERIES, SLOT of a week.", """
                option({-1, 0}, 0) = NONE  series(1, NONE, {NONE, NONE})
                option({-1, 2, 4, MIN, MAX}, 0) = NONE  option(0, {-1, 336, 17471, MIN, MAX}) = NONE  fits(0, 0, 0, NONE, 0) = NONE
                option(0, {1, 2, 3, 4, 5}) option(0, 336) = NONE  option(0, 335) = 5  option(0, {0, 1, 335, 336}) = NONE
                fits(0, 0, {5, 6}, NONE, 0) = {1, NONE}  fits(0, 51, 5, NONE, 0) = 1  option(1, 6) = 0
                """);
        all.holds(12, "The ROLE of a PERSON in a SERIES becomes r (0 .. 5): true", """
                land(0) person(0, {0, 0}) series(1, NONE, {NONE, NONE}) option({0, 1}, 5) busy({0, 1}, 5, 6, false)
                role(0, 0, {5, 4, 3, 2, 1, 0}) = true  fits(0, 0, 0, NONE, 2) = 1
                role(0, 0, {0, 1}) = true  fits({0, 1}, 0, 0, NONE, 2) = {0, 1}      # in that SERIES alone
                role(0, 1, 1) role(0, 0, 0) fits(0, 0, 0, NONE, {1, 2}) = {1, 0}     # of that PERSON alone
                """);
        all.holds(12, "false for others", """
                role(0, 0, 1) = false  land(0) person(0, 0) role(0, 0, 1) = false  series(1, NONE, NONE) option(0, 5)
                role(0, 0, 2) role(0, 0, {-1, 6, 256, MIN, MAX}) = false
                role({-1, 1, 4, MIN, MAX}, 0, 1) = false  role(0, {-1, 1, 12, MIN, MAX}, 1) = false
                busy(0, 5, 6, false) fits(0, 0, 0, NONE, 1) = 1  plan(0, 0, 1, 0) = 0  comes(0, 0, 0, {0, 1}) = {1, 0}
                """);
    }

    private static void localTimes() {
        all.holds(13, "LOCAL time of a LAND at SLOT t, as KNOWN by n", """
                land({2, 2}) change(0, 100, 4) = 0  change(1, 50, 6) = 1  change(0, 60, -2) = 2      # the last one late told
                local(0, {59, 60, 99, 100}, {0..3}, 3) = {2, 2, 2, 2, 2, 2, 2, -2, 2, 2, 2, -2, 2, 4, 4, 4}
                local(1, {49, 50}, {0..3}, 3) = {2, 2, 2, 2, 2, 2, 6, 6}
                local(0, 60, {2, 3}, {0, 1, 2}) = {1, 14, 1, 1, 10, 1}
                """);
        all.holds(13, "what 0: day, 1: slot, 2: weekday, 3: OFFSET.", """
                land({-24, 28}) local(0, 0, 0, {-1, 0, 1, 2, 3, 4, MIN, MAX}) = {-1000000, -1, 24, 6, -24, -1000000, -1000000, -1000000}
                local(1, 17471, 0, {-1, 0, 1, 2, 3, 4}) = {-1000000, 364, 27, 0, 28, -1000000}
                change(0, 400, 0) = 0  local(0, {399, 400}, 1, {0..3}) = {7, 39, 0, -24, 8, 16, 1, 0}
                """);
        all.holds(13, "-1000000: no such ones.", """
                local(0, 0, 0, 0) = -1000000  land(0)
                local({-1, 1, 8, MIN, MAX}, 0, 0, 0) = -1000000  local(0, {-1, 17472, MIN, MAX}, 0, 0) = -1000000
                local(0, 0, {-1, 1, 400, MIN, MAX}, 0) = -1000000  local(0, 0, 0, {-1, 4, MIN, MAX}) = -1000000
                """);
    }

    private static void slotsOfLocalTimes() {
        all.holds(14, "a local day (-1 .. 364) and slot (0 .. 47), as KNOWN by n", """
                land(0) change(0, 100, 2) = 0  change(0, 100, 0) = 1  change(0, 90, 1) = 2
                when(0, 2, 4, {0..3}, 0) = {1, 0, 1, 2}                      # not, once again, twice
                when(0, 2, 4, {0..3}, 1) = {100, NONE, 100, 99}  when(0, 2, 4, {0..3}, 2) = {100, NONE, 100, 100}
                when(0, 1, 42, {2, 3}, {0, 1, 2}) = {1, 90, 90, 0, NONE, NONE}
                """);
        all.holds(14, "a local day (-1 .. 364) and slot (0 .. 47)", """
                land({-24, 28, 0})
                when(0, -1, {0, 23, 24, 47}, 0, 0) = {0, 0, 1, 1}  when(0, -1, {23, 24, 47}, 0, 1) = {NONE, 0, 23}
                when(0, 363, {23, 24}, 0, 2) = {17471, NONE}  when(0, 364, {0, 47}, 0, {0, 1}) = {0, NONE, 0, NONE}
                when(1, 364, {0, 27, 28, 47}, 0, 0) = {1, 1, 0, 0}  when(1, 364, {0, 27, 28}, 0, 2) = {17444, 17471, NONE}
                when(1, 0, {27, 28}, 0, 1) = {NONE, 0}  when(1, -1, 47, 0, 0) = 0
                when(2, {-1, 0, 363, 364}, {0, 47}, 0, 1) = {NONE, NONE, 0, 47, 17424, 17471, NONE, NONE}
                when(2, {-2, 365, MIN, MAX}, 0, 0, {0, 1, 2}) = NONE  when(2, 0, {-1, 48, MIN, MAX}, 0, {0, 1, 2}) = NONE
                """);
        all.holds(14, "what 0: how many; 1: the first (NONE), 2: the last (NONE)", """
                land(0)
                when(0, 2, 3, 0, {0, 1, 2}) = {1, 99, 99}
                change(0, 100, 2) = 0                                        # the local times 100 and 101 are not
                when(0, 2, {3, 4, 5, 6}, 1, 0) = {1, 0, 0, 1}
                when(0, 2, {3, 4, 5, 6}, 1, 1) = {99, NONE, NONE, 100}  when(0, 2, {3, 4, 5, 6}, 1, 2) = {99, NONE, NONE, 100}
                change(0, 200, 0) = 1                                        # 200 and 201 are twice
                when(0, 4, {7, 8, 9, 10}, 2, 0) = {1, 2, 2, 1}
                when(0, 4, {7, 8, 9, 10}, 2, 1) = {197, 198, 199, 202}  when(0, 4, {7, 8, 9, 10}, 2, 2) = {197, 200, 201, 202}
                change(0, 300, -1) = 2  change(0, 301, -2) = 3               # 299 is three times
                when(0, 6, {10, 11, 12}, 4, 0) = {1, 3, 1}  when(0, 6, {10, 11, 12}, 4, {1}) = {298, 299, 302}
                when(0, 6, {10, 11, 12}, 4, {2}) = {298, 301, 302}
                when(0, 6, 11, {0..4}, 0) = {1, 1, 1, 2, 3}                  # as KNOWN
                """);
        all.holds(14, "The SLOTS at which a LAND's clocks tell", """
                land(28) change(0, 480, -24) = 0                             # as far back as can be
                when(0, 9, 23, 1, {0, 1, 2}) = {1, 427, 427}  when(0, 9, 24, 1, {0, 1, 2}) = {2, 428, 480}
                when(0, 9, 47, 1, {0, 1, 2}) = {2, 451, 503}  when(0, 10, 0, 1, {0, 1, 2}) = {2, 452, 504}
                when(0, 10, 27, 1, {0, 1, 2}) = {2, 479, 531}  when(0, 10, 28, 1, {0, 1, 2}) = {1, 532, 532}
                change(0, 960, 28) = 1                                       # as far on as can be
                when(0, 19, {23, 24}, 2, 0) = {1, 0}  when(0, 19, {23, 24}, 2, 1) = {959, NONE}
                when(0, 20, {27, 28}, 2, 0) = {0, 1}  when(0, 20, {27, 28}, 2, 2) = {NONE, 960}
                """);
        all.holds(14, "NONE for others.", """
                when(0, 0, 0, 0, 0) = NONE  land(0)
                when({-1, 1, 8, MIN, MAX}, 0, 0, 0, 0) = NONE  when(0, 0, 0, {-1, 1, MIN, MAX}, 0) = NONE
                when(0, 0, 0, 0, {-1, 0, 1, 2, 3, MIN, MAX}) = {NONE, 1, 0, 0, NONE, NONE, NONE}
                when(0, {89478485, 89478486, -89478485}, {0, 47}, 0, {0, 1, 2}) = NONE    # times 48 these wrap around
                """);
    }

    private static void canAndCost() {
        all.holds(15, "Whether a PERSON CAN from SLOT t on for l SLOTS", """
                land(0) person(0, {0, 0}) row(0, 48) cell(0, 30, -1)
                can(0, {24, 25, 30, 31}, 6, 0) = {0, 1, 1, 0}  can(0, 25, {5, 6}, 0) = {0, 1}  can(1, 25, 6, 0) = 0
                """);
        all.holds(15, ", as KNOWN by n: 0: yes", """
                land(0) person(0, 0) row(0, 48) cell(0, 30, -1)
                busy(0, 24, 25, true) = 0  feast(0, 0) = 1  change(0, 24, 6) = 2
                can(0, {23, 24, 25}, 1, {0..3}) = {0, 0, 3, 3, 0, 4, 3, 1, 0, 0, 3, 3}
                """);
        all.holds(15, "for l SLOTS (1 .. 6; none beyond 17471)", """
                land(0) person(0, 0) can(0, 0, {-1, 0, 1, 6, 7, MIN, MAX}, 0) = {NONE, NONE, 0, 0, NONE, NONE, NONE}
                can(0, {17466, 17467, 17470, 17471}, {1, 2, 5, 6}, 0) =
                  {0, 0, 0, 0,  0, 0, 0, NONE,  0, 0, NONE, NONE,  0, NONE, NONE, NONE}
                can(0, {MAX, 2147483642, MIN, -1, -6}, {1, 6}, 0) = NONE
                """);
        all.holds(15, "else the first SLOT's first reason: 1 NEVER, 2 OFF, 3 FEAST, 4 BUSY", """
                land(0) person(0, 1) row(0, 48) cell(0, {5, 6}, -1)
                feast(0, {0, 1}) busy(0, 0, 100, false)
                can(0, {4, 5, 6, 7}, 1, 3) = {2, 1, 1, 2}                    # NEVER is ahead of OFF
                can(0, {47, 48, 52, 53, 95, 96, 99, 100}, 1, 3) = {2, 3, 3, 1, 3, 4, 4, 0}   # OFF, FEAST, BUSY
                can(0, 4, {1, 2}, 3) = 2                                     # the first SLOT's, not the least
                can(0, {47, 52, 95}, 2, 3) = {2, 3, 3}  can(0, {96, 99}, 6, 3) = 4
                can(0, {96, 99, 100}, 6, 2) = 1  can(0, 96, 5, 2) = 0  can(0, 95, 2, 2) = 3  can(0, 99, 2, 2) = 0
                """);
        all.holds(15, "NONE: no such ones.", """
                can(0, 0, 1, 0) = NONE  land(0) person(0, 127) can({-1, 0, 1, 12, MIN, MAX}, 0, 1, 0) = {NONE, 2, NONE, NONE, NONE, NONE}
                can(0, {-1, 17472, MIN, MAX}, 1, 0) = NONE  can(0, 0, {0, 7}, 0) = NONE  can(0, 0, 1, {-1, 1, MIN, MAX}) = NONE
                """);
        all.holds(16, "Its COST (a NEVER counts 0)", """
                land(0) person(0, 127) row(0, 3) cell(0, 0, 1) cell(0, 1, -1) cell(0, 2, 10)
                cost(0, {0, 1, 2, 46, 47}, 1, 0) = {1, 0, 10, 10, 10}
                cost(0, 0, {1..6}, 0) = {1, 1, 11, 21, 31, 41}  cost(0, 47, {1, 2, 3, 4}, 0) = {10, 11, 11, 21}
                feast(0, 0) busy(0, 0, 9, false) cost(0, 0, 3, 2) = 11       # also where it can't
                cell(0, 2, -1) cost(0, {1, 2, 17466}, 6, 2) = 0
                """);
        all.holds(16, "NONE: no such ones.", """
                cost(0, 0, 1, 0) = NONE  land(0) person(0, 0) cost({-1, 0, 1, 12, MIN, MAX}, 0, 1, 0) = {NONE, 0, NONE, NONE, NONE, NONE}
                cost(0, {-1, 17472, MIN, MAX}, 1, 0) = NONE  cost(0, 0, {-1, 0, 1, 6, 7, MIN, MAX}, 0) = {NONE, NONE, 0, 0, NONE, NONE, NONE}
                cost(0, {17466, 17467, 17471}, {1, 2, 6}, 0) = {0, 0, 0, 0, 0, NONE, 0, NONE, NONE}
                cost(0, 0, 1, {-1, 1, MIN, MAX}) = NONE  cost(0, {MAX, 2147483642, MIN, -1}, {1, 6}, 0) = NONE
                """);
    }

    private static void spans() {
        all.holds(17, "The latest told BUSY span of a PERSON, as KNOWN by n, that has SLOT t: its FACT", """
                land(0) person(0, {0, 0}) busy(0, 0, 17472, false) = 0  busy(1, 10, 20, false) = 1  busy(0, 15, 16, false) = 2
                busy(0, 10, 15, false) = 3  feast(0, 0) = 4
                span(0, {0, 9, 10, 14, 15, 16, 17471}, 5) = {0, 0, 3, 3, 2, 0, 0}
                span(0, 15, {0..5}) = {NONE, 0, 0, 2, 2, 2}  span(1, {9, 10, 19, 20}, 5) = {NONE, 1, 1, NONE}
                """);
        all.holds(17, "NONE: none, or no such ones; -2: it is private.", """
                span(0, 0, 0) = NONE  land(0) person(0, 0) span(0, {0, 17471}, 0) = NONE
                busy(0, 5, 7, false) busy(0, 6, 8, true) busy(0, 7, 9, false)
                span(0, {4, 5, 6, 7, 8, 9}, 3) = {NONE, 0, -2, 2, 2, NONE}
                span(0, {5, 6, 7, 8}, 2) = {0, -2, -2, NONE}
                span({-1, 1, 12, MIN, MAX}, 6, 3) = NONE  span(0, {-1, 17472, MIN, MAX}, 3) = NONE  span(0, 6, {-1, 4, MIN, MAX}) = NONE
                """);
    }

    private static void fitting() {
        all.holds(18, "Whether an OPTION (i, and j of a SPLIT one, else NONE) of a SERIES FITS in a WEEK", """
                land(0) person(0, 0) series(1, NONE, {NONE, 0}) option({0, 1}, {10, 20, 30, 40, 50, 60})
                fits(0, 0, {-1, 0, 5, 6, 32, MIN, MAX}, NONE, 0) = {NONE, 1, 1, NONE, NONE, NONE, NONE}
                fits(0, 0, {0, 1}, {-2, 0, 1, 5, 6, MIN, MAX}, 0) = NONE
                fits(1, 0, 0, {-2, -1, 0, 1, 5, 6, 32, MIN, MAX}, 0) = {NONE, NONE, NONE, 1, 1, NONE, NONE, NONE, NONE}
                fits(1, 0, 4, {3, 4, 5, 6}, 0) = {NONE, NONE, 1, NONE}  fits(1, 0, {-1, 5, 6, MIN, MAX}, {-1, 5, 6}, 0) = NONE
                """);
        all.holds(18, "NONE: no such ones.", """
                fits(0, 0, 0, NONE, 0) = NONE  series(1, NONE, NONE) fits(0, 0, 0, NONE, 0) = NONE  option(0, 0)
                fits({-1, 0, 1, 4, MIN, MAX}, 0, 0, NONE, 0) = {NONE, 1, NONE, NONE, NONE, NONE}
                fits(0, {-1, 0, 51, 52, MIN, MAX}, 0, NONE, 0) = {NONE, 1, 1, NONE, NONE, NONE}
                fits(0, 0, 0, NONE, {-1, 0, 1, MIN, MAX}) = {NONE, 1, NONE, NONE, NONE}
                """);
        all.holds(18, "FITS in a WEEK, as KNOWN by n: 1, 0.", """
                land(0) person(0, {0, 0}) series(1, NONE, 1) option(0, {10, 20}) role(0, 0, 1)
                busy(0, 10, 11, false) = 0  busy(1, 346, 347, false) = 1  busy(0, 20, 21, false) = 2  cant(0, 0, 2) = 3
                fits(0, {0, 1, 2}, 0, 1, {0..4}) = {1, 1, 1, 0, 0, 1, 1, 0, 0, 0, 1, 1, 1, 1, 0}
                """);
        all.holds(18, "1, 0.", """
                land(0) person(0, 0) series(2, NONE, NONE) option(0, {10, 335}) role(0, 0, 1) cant(0, 0, 3) = 0
                fits(0, {3, 50, 51}, {0, 1}, NONE, {0, 1}) = {1, 0, 1, 0, 1, 1, 1, 1, 1, 1, 0, 0}
                count(4) = 0  planned(0, 3, 0) = NONE                        # nothing is PLANNED by it
                """);
    }

    private static void plans() {
        all.holds(19, "A PLAN of a SERIES for WEEKS a .. b - 1, as KNOWN by n: the greatest SUM", """
                land({0, 0}) person({0, 1}, 0) row({0, 1}, 48) cell(0, 10, 5) cell(1, 20, 4) cell(1, 12, 7)
                series(1, NONE, NONE) option(0, {10, 20}) role(0, {0, 1}, 1)
                plan(0, 0, 1, 0) = 4  planned(0, {0, 1}, 0) = {1, NONE}
                change(1, 0, 2) = 0  change(1, 336, 0) = 1                   # in WEEK 0 the second costs nobody
                plan(0, 0, 1, 1) = 0  planned(0, 0, 0) = 1
                plan(0, 0, 2, 0) = 5  planned(0, {0, 1, 2}, 0) = {0, 1, NONE}
                plan(0, 0, 2, 1) = 0  planned(0, {0, 1, 2}, 0) = {1, 1, NONE}
                plan(0, 0, 2, 2) = 4  planned(0, {0, 1, 2}, 0) = {1, 1, NONE}
                cant(1, 0, 1) = 2  plan(0, 0, 2, 3) = NONE  stuck({0, 1}) = {1, NONE}
                plan(0, 0, 2, 2) = 4  stuck(0) = NONE  plan(0, 0, 1, 3) = 0
                """);
        all.holds(19, "as KNOWN by n: the greatest SUM", """
                series(1, NONE, NONE) option(0, 0) plan(0, 0, 6, 0) = 0      # without PERSONS
                land(0) person(0, {0, 0}) row({0, 1}, 1) cell(0, 0, 100) cell(1, 0, 99) plan(0, 0, 6, 0) = 0
                role(0, {0, 1}, 1) plan(0, 0, 6, 0) = 600  plan(0, 0, 1, 0) = 100
                role(0, 0, 0) plan(0, 0, 6, 0) = 594
                series(6, NONE, 0) option(1, {0, 6}) role(1, 1, 1) plan(1, 0, 4, 0) = 4800
                cant(1, 1, 9) = 0  plan(1, 9, 10, 0) = 1200  plan(1, 9, 10, 1) = NONE  plan(0, 9, 10, 1) = 99
                """);
        all.holds(19, "-2, and nothing happens: no such SERIES, n, WEEKS (a 0 .. b - 1, b 52 at most; too many)", """
                plan(0, 0, 1, 0) = -2  land(0) person(0, 0) series(1, NONE, {NONE, 0}) option({0, 1}, {0, 1})
                plan({-1, 2, 4, MIN, MAX}, 0, 1, 0) = -2  plan(0, 0, 1, {-1, 1, MIN, MAX}) = -2
                plan(0, {-1, 3, 4, MIN, MAX}, 3, 0) = -2
                plan({0, 1}, 0, {-1, 0, 7, 52, 53, MIN, MAX}, 0) = -2  plan(0, {47, 51, 52}, 53, 0) = -2
                plan(1, 0, {5, 6}, 0) = -2  plan(1, 47, 52, 0) = -2  plan(0, 45, 52, 0) = -2
                plan({0, 1}, {MIN, -1, 0, MAX}, {MIN, -1, 0}, 0) = -2  plan({0, 1}, {MIN, MAX, 53}, {MAX, 54}, 0) = -2
                count(4) = 0
                plan(0, {0, 46, 51}, {6, 52}, 0) = {0, -2, -2, 0, -2, 0}  plan(1, {0, 48, 51}, {4, 52}, 0) = {0, -2, -2, 0, -2, 0}
                count(4) = 20
                """);
        all.holds(19, "NONE: there is none", """
                land(0) person(0, 0) series(1, NONE, {NONE, 0}) plan({0, 1}, 0, 1, 0) = NONE  option({0, 1}, 0) plan({0, 1}, 0, 1, 0) = {0, NONE}
                option(1, {0, 1}) plan(1, 0, 1, 0) = 0  count(4) = 2
                cant(0, {0, 1}, 0) = {0, 1}  role(0, 0, 1) plan({0, 1}, 0, 1, 2) = NONE  count(4) = 2
                planned({0, 1}, 0, {0, 1}) = {0, NONE, 0, 2}
                """);
    }

    private static void stuckOnes() {
        String two = """
                land(0) person(0, {0, 0, 0}) series(1, NONE, NONE) option(0, {10, 20}) role(0, {0, 2}, 1)
                busy(0, 10, 11, false) busy(2, 20, 21, false)
                """;
        all.holds(20, "The i-th PERSON, by numbers", two + """
                stuck({-1, 0, 1}) = NONE  plan(0, 0, 1, 2) = NONE
                stuck({-1, 0, 1, 2, 11, 12, MIN, MAX}) = {NONE, 0, 2, NONE, NONE, NONE, NONE, NONE}
                """);
        all.holds(20, "of the STUCK of the latest plan() that was not -2", two + """
                plan(0, 0, 1, 2) = NONE
                plan(0, 0, {0, 7, 53}, 2) = -2  plan(1, 0, 1, 2) = -2  plan(0, 0, 1, 3) = -2  stuck({0, 1, 2}) = {0, 2, NONE}
                move(0, 2) = 0  move(52, 2) = -2  fits(0, 1, 0, NONE, 2) = 1  role(0, 2, 0) stuck({0, 1, 2}) = {0, 2, NONE}
                role(0, 2, 1) plan(0, 1, 2, 2) = 0  stuck({0, 1}) = NONE     # one that was found
                busy(0, 356, 357, false) busy(0, 346, 347, false) plan(0, 1, 2, 4) = NONE  stuck({0, 1}) = {0, NONE}
                move(1, 4) = NONE  stuck({0, 1}) = {0, NONE}
                plan(0, 0, 1, 0) = 0  stuck(0) = NONE
                """);
        all.holds(20, "NONE: not so many", """
                stuck({-1, 0, 1, MIN, MAX}) = NONE
                land(0) person(0, {0, 0, 0, 0, 0, 0, 0, 0, 0, 0, 0, 0}) series(1, NONE, NONE) option(0, 10) role(0, 11, 1) cant(11, 0, 0) = 0
                plan(0, 0, 1, 1) = NONE  stuck({-1, 0, 1, 11, MIN, MAX}) = {NONE, 11, NONE, NONE, NONE, NONE}
                """);
    }

    private static void moves() {
        all.holds(21, "A MOVE of a WEEK, as KNOWN by n: how many SERIES have others then", """
                land(0) person(0, 0) row(0, 48) cell(0, 25, 9) cell(0, 35, -1)
                series(1, NONE, {NONE, NONE}) option({0, 1}, {10, 20, 30}) role(0, 0, 1) role(1, 0, 2) plan({0, 1}, 0, 2, 0) = 0
                busy(0, 10, 11, false) = 0  change(0, 15, 5) = 1
                move(0, 0) = 0  planned({0, 1}, 0, 0) = 0
                move(0, 1) = 1  planned({0, 1}, 0, 0) = {1, 0}
                move(0, 2) = 0  planned({0, 1}, 0, 0) = {1, 0}               # though it costs 9 by now
                busy(0, 20, 21, false) = 2  move(0, 3) = NONE  planned({0, 1}, 0, 0) = {1, 0}    # 30 is NEVER by now
                move(0, 1) = 0  planned({0, 1}, 1, 0) = 0
                """);
        all.holds(21, "how many SERIES have others then", """
                move({0, 51}, 0) = 0                                         # nothing is PLANNED
                land(0) person(0, 0) series(1, NONE, {NONE, 0}) option({0, 1}, {10, 20, 30}) plan({0, 1}, 51, 52, 0) = 0
                role(0, 0, 1) move(51, 0) = 1  planned({0, 1}, 51, 0) = {0, 1}  planned(1, 51, 1) = 2
                move({0, 50, 51}, 0) = 0
                """);
        all.holds(21, "NONE, and nothing happens: there is none", """
                land(0) person(0, {0, 0}) series(1, NONE, {NONE, NONE}) option({0, 1}, {10, 20}) role(0, 0, 1) role(1, 1, 1)
                plan({0, 1}, 0, 1, 0) = 0  busy(0, 10, 11, false) cant(1, 1, 0)
                move(0, 2) = NONE  planned({0, 1}, 0, 0) = 0  count(4) = 2  comes(0, 0, 0, {0, 2}) = {1, 0}
                move(0, 1) = 1  planned({0, 1}, 0, 0) = {1, 0}
                """);
        all.holds(21, "-2: no such WEEK, n", """
                move({-1, 0, 51, 52, MIN, MAX}, 0) = {-2, 0, 0, -2, -2, -2}  move(0, {-1, 0, 1, MIN, MAX}) = {-2, 0, -2, -2, -2}
                land(0) person(0, 0) series(1, NONE, NONE) option(0, {10, 20}) role(0, 0, 1) plan(0, 0, 1, 0) = 0
                busy(0, 10, 11, false) move({-1, 52}, 1) = -2  move(0, {-1, 2}) = -2  planned(0, 0, 0) = 0
                move(0, {0, 1}) = {0, 1}
                """);
    }

    private static void plannedOnes() {
        all.holds(22, "What is PLANNED of a SERIES in a WEEK", """
                land(0) person(0, 0) series(1, NONE, {NONE, 0}) option({0, 1}, {10, 20, 30}) plan({0, 1}, 1, 3, 0) = 0
                planned({0, 1}, {0..3}, 0) = {NONE, 0, 0, NONE, NONE, 0, 0, NONE}
                planned({0, 1}, {1, 2}, {2, 3}) = {346, NONE, 682, NONE, 346, 356, 682, 692}
                role(0, 0, 1) busy(0, 346, 347, false) = 0  plan(0, 1, 2, 1) = 0     # by a PLAN anew
                planned(0, {1, 2}, {0, 2}) = {1, 356, 0, 682}
                move(1, 1) = NONE  option(1, 40) move(1, 1) = 1                      # by a MOVE
                planned(0, 1, {0..3}) = {1, NONE, 356, NONE}  planned(1, {1, 2}, {0..3}) = {2, 3, 366, 376, 0, 1, 682, 692}
                """);
        all.holds(22, "what 0: the OPTION, 1: the second one (NONE if it is not SPLIT), 2, 3: the SLOT of these (NONE)", """
                land(0) person(0, 0) series(1, NONE, {NONE, 0}) option(0, {0, 335}) option(1, {335, 0}) role(0, 0, 1)
                plan(0, 51, 52, 0) = 0  busy(0, 0, 1, false) plan(0, 0, 1, 1) = 0
                planned(0, {0, 51}, {0..3}) = {1, NONE, 335, NONE, 0, NONE, 17136, NONE}
                role(0, 0, 0) plan(1, 50, 52, 1) = 0
                planned(1, {50, 51}, {0..3}) = {0, 1, 17135, 16800, 0, 1, 17471, 17136}
                """);
        all.holds(22, "NONE for others, or if nothing is", """
                planned(0, 0, {0..3}) = NONE  series(1, NONE, NONE) option(0, 7) planned(0, 0, {0..3}) = NONE
                plan(0, 0, 1, 0) = 0  planned(0, 0, {-1, 0, 1, 2, 3, 4, MIN, MAX}) = {NONE, 0, NONE, 7, NONE, NONE, NONE, NONE}
                planned({-1, 1, 4, MIN, MAX}, 0, 0) = NONE  planned(0, {-1, 1, 51, 52, MIN, MAX}, 0) = NONE
                """);
    }

    private static void comers() {
        all.holds(23, "Whether a PERSON comes to a SERIES PLANNED in a WEEK, as KNOWN by n", """
                land({0, 0}) person({0, 1, 0}, 0) row(1, 48) cell(1, 10, 3) cell(1, 22, 5)
                series(1, NONE, 2) option(0, {10, 20}) role(0, {0, 1}, 2) plan(0, 0, 1, 0) = 0
                comes({0, 1, 2}, 0, {0, 1}, 0) = {1, NONE, 2, NONE, 3, NONE}
                change(1, 15, 2) = 0  busy(1, 10, 11, false) = 1  change(1, 0, 1) = 2  cant(1, 0, 0) = 3
                comes(1, 0, 0, {0..5}) = {2, 1, 2, 2, 0, NONE}               # the second became the dearer, the first BUSY
                comes({0, 2}, 0, 0, {0..5}) = {1, 1, 1, 1, 1, NONE, 3, 3, 3, 3, 3, NONE}
                """);
        all.holds(23, "0 no, 1 to the first (the only) one, 2 to the second, 3 to both", """
                land(0) person(0, {0, 0, 0}) row({0, 1}, 48) cell(0, 10, 1) cell(1, 20, 1)
                series(1, NONE, {NONE, 2}) option(0, 30) option(1, {10, 20}) role({0, 1}, {0, 1}, 2) plan({0, 1}, 0, 1, 0) = 0
                comes({0, 1, 2}, {0, 1}, 0, 0) = {1, 2, 1, 1, 0, 3}
                busy({0, 1, 2}, 20, 21, false) comes({0, 1, 2}, {0, 1}, 0, 3) = {1, 1, 1, 1, 0, 1}
                cant({0, 1, 2}, 1, 0) comes({0, 1, 2}, {0, 1}, 0, 6) = {1, 0, 1, 0, 0, 0}
                """);
        all.holds(23, "NONE: nothing is PLANNED, or no such ones", """
                comes(0, 0, 0, 0) = NONE  land(0) person(0, 0) series(1, NONE, NONE) option(0, 5) role(0, 0, 1) comes(0, 0, 0, 0) = NONE
                plan(0, 0, 1, 0) = 0  comes({-1, 0, 1, 12, MIN, MAX}, 0, 0, 0) = {NONE, 1, NONE, NONE, NONE, NONE}
                comes(0, {-1, 0, 1, 4, MIN, MAX}, 0, 0) = {NONE, 1, NONE, NONE, NONE, NONE}
                comes(0, 0, {-1, 0, 1, 51, 52, MIN, MAX}, 0) = {NONE, 1, NONE, NONE, NONE, NONE, NONE}
                comes(0, 0, 0, {-1, 0, 1, MIN, MAX}) = {NONE, 1, NONE, NONE, NONE}
                """);
    }

    private static void sums() {
        all.holds(24, "The SUM of a PERSON over all that is PLANNED, as KNOWN by n", """
                land(0) person(0, {0, 0, 0}) row({0, 1}, 1) cell(0, 0, 100) cell(1, 0, 1) sum({0, 1, 2}, 0) = 0
                series(6, NONE, {NONE, 0}) option(0, 300) option(1, {0, 6}) role({0, 1}, {0, 1}, 2)
                plan(0, 0, 6, 0) = 3600  plan(0, 6, 12, 0) = 3600  plan(0, 12, 18, 0) = 3600  plan(0, 18, 24, 0) = 3600
                plan(0, 24, 30, 0) = 3600  plan(0, 30, 36, 0) = 3600  plan(0, 36, 42, 0) = 3600  plan(0, 42, 48, 0) = 3600
                sum({0, 1, 2}, 0) = {28800, 288, 0}
                plan(1, 48, 52, 0) = 4800  sum({0, 1, 2}, 0) = {33600, 312, 0}      # the CHAIR for both halves
                plan(0, 51, 52, 0) = 600  sum({0, 1, 2}, 0) = {34200, 318, 0}
                cant(0, 0, 51) = 0  sum({0, 1}, {0, 1}) = {34200, 33600, 318, 318}
                """);
        all.holds(24, "NONE: no such ones.", """
                sum({-1, 0}, 0) = NONE  land(0) person(0, 0)
                sum({-1, 0, 1, 12, MIN, MAX}, 0) = {NONE, 0, NONE, NONE, NONE, NONE}  sum(0, {-1, 0, 1, MIN, MAX}) = {NONE, 0, NONE, NONE, NONE}
                """);
    }

    private static void shiftedOnes() {
        all.holds(25, "as KNOWN by m, than as KNOWN by n", """
                land(0) person(0, 0) series(1, NONE, NONE) option(0, 10) role(0, 0, 2) plan(0, 0, 3, 0) = 0
                change(0, 0, 1) = 0  change(0, 336, 0) = 1  change(0, 672, 1) = 2  change(0, 336, 1) = 3
                shifted({0..4}, {0..4}) = {0, 3, 1, 2, 3, 3, 0, 2, 1, 0, 1, 2, 0, 1, 2, 2, 1, 1, 0, 1, 3, 0, 2, 1, 0}
                """);
        all.holds(25, "How many meetings that are PLANNED (halves each by itself) begin at another LOCAL time", """
                land({0, 2}) person({0, 1}, 0) shifted(0, 0) = 0
                series(2, NONE, {NONE, 0}) option(0, 30) option(1, {10, 20}) role({0, 1}, 1, 2)
                plan({0, 1}, 0, 2, 0) = 0
                change(1, 31, 5) = 0  change(1, 336, 2) = 1
                shifted(0, {0, 1, 2}) = {0, 3, 0}                            # 30 began ahead of it
                shifted({0, 1, 2}, 1) = {3, 0, 3}
                change(1, 30, 5) = 2  change(1, 20, 5) = 3  change(1, 10, 5) = 4  change(1, 356, 28) = 5
                shifted(2, {3, 4, 5, 6}) = {1, 2, 3, 5}
                shifted({3, 4, 5, 6}, 2) = {1, 2, 3, 5}
                """);
        all.holds(25, "for somebody with a ROLE in them", """
                land({0, 0}) person({0, 1, 1}, 0) series(1, NONE, NONE) option(0, 10) plan(0, 0, 1, 0) = 0  change(1, 0, 1) = 0
                shifted(0, 1) = 0  role(0, 0, 1) shifted(0, 1) = 0
                role(0, 1, {1, 2, 3, 4, 5}) shifted(0, 1) = 1  role(0, 2, 2) shifted(0, 1) = 1      # once for all of them
                role(0, 1, 0) shifted(0, 1) = 1  role(0, 2, 0) shifted(0, 1) = 0
                role(0, 2, 2) busy(2, 0, 20, false) shifted(0, 2) = 1                               # also if it does not come
                """);
        all.holds(25, "NONE: no such ones.", """
                shifted({-1, 0, 1, MIN, MAX}, 0) = {NONE, 0, NONE, NONE, NONE}  shifted(0, {-1, 0, 1, MIN, MAX}) = {NONE, 0, NONE, NONE, NONE}
                land(0) feast(0, 0) shifted({-1, 0, 1, 2}, {-1, 0, 1, 2}) = {NONE, NONE, NONE, NONE, NONE, 0, 0, NONE, NONE, 0, 0, NONE, NONE, NONE, NONE, NONE}
                """);
    }

    private static void counts() {
        all.holds(26, "0 LANDS, 1 PERSONS, 2 FACTS, 3 SERIES, 4 meetings PLANNED (SERIES by WEEKS). NONE for others.", """
                count({-1, 0, 1, 2, 3, 4, 5, MIN, MAX}) = {NONE, 0, 0, 0, 0, 0, NONE, NONE, NONE}
                land({0, 0}) person(0, {0, 0, 0}) series(1, NONE, {NONE, 0}) option(0, 5) option(1, {5, 6})
                feast(0, 0) change(0, 0, 0) busy(0, 0, 1, false) cant(0, 0, 0)
                plan(0, 0, 6, 4) = 0  plan(0, 3, 9, 4) = 0  plan(1, 48, 52, 4) = 0
                count({-1, 0, 1, 2, 3, 4, 5, MIN, MAX}) = {NONE, 2, 3, 4, 2, 13, NONE, NONE, NONE}
                """);
    }
}
