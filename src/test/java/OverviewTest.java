/** The document's first sentences: a longer run of calls for each thing that the class is said to be for. */
public final class OverviewTest {
    private static Sentences all;

    /** Two persons who work from 9 to 18 of their own clocks, the second one six hours ahead of the first. */
    private static final String OFFICES = """
            land({0, 12}) person({0, 1}, 0)
            row({0, 1}, 37) cell({0, 1}, {0..17}, -1) cell({0, 1}, 36, -1)
            """;

    public static void main(String[] args) throws Exception {
        all = new Sentences();
        meetings();
        clocks();
        people();
        plans();
        moves();
        calls();
        all.mustAllBeQuoted(Sentences.WHAT_IT_IS);
        all.end();
    }

    private static void about(String words, String run) {
        all.holds(Sentences.WHAT_IT_IS, words, run);
    }

    private static void meetings() {
        about("A finder of meetings across clocks", OFFICES + """
                can(0, {17, 18, 35, 36}, 1, 0) = {1, 0, 0, 1}  can(1, {5, 6, 23, 24}, 1, 0) = {1, 0, 0, 1}
                series(2, NONE, NONE) option(0, {10, 17, 18, 22, 23}) role(0, {0, 1}, 1)
                fits(0, 0, {0..4}, NONE, 0) = {0, 0, 1, 1, 0}             # both work from 18 up to 24
                plan(0, 0, 5, 0) = 0  planned(0, {0..4}, 2) = {18, 354, 690, 1026, 1362}
                local({0, 1}, 18, 0, 1) = {18, 30}  comes({0, 1}, 0, 4, 0) = 1  count(4) = 5
                """);
    }

    private static void clocks() {
        about("lands whose clocks change by facts, also late told", OFFICES + """
                series(2, NONE, NONE) option(0, {18, 22}) role(0, {0, 1}, 1) plan(0, 0, 2, 0) = 0
                change(1, 336, 14) = 0  fits(0, {0, 1}, 1, NONE, {0, 1}) = {1, 1, 1, 0}
                shifted(0, 1) = 1                                         # WEEK 1's begins at another local time
                change(1, 0, 16) = 1                                      # late told: it began ahead of the other
                local(1, {0, 335, 336}, {0, 1, 2}, 3) = {12, 12, 16, 12, 12, 16, 12, 14, 14}
                fits(0, {0, 1}, {0, 1}, NONE, 2) = {1, 0, 1, 0}
                shifted(0, 2) = 2  shifted(1, 2) = 1
                local(1, 100, {0, 1}, 3) = 12                             # what was KNOWN ahead of it stays
                """);
        about("hours that are not, or are twice", """
                land(0) change(0, 196, 2) = 0                             # at 2 of DAY 4 clocks tell 3
                when(0, 4, {3, 4, 5, 6}, 1, 0) = {1, 0, 0, 1}  when(0, 4, {3, 4, 5, 6}, 1, 1) = {195, NONE, NONE, 196}
                change(0, 534, 0) = 1                                     # at 4 of DAY 11 they tell 3 again
                when(0, 11, {5, 6, 7, 8}, 2, 0) = {1, 2, 2, 1}
                when(0, 11, {5, 6, 7, 8}, 2, 1) = {531, 532, 533, 536}  when(0, 11, {5, 6, 7, 8}, 2, 2) = {531, 534, 535, 536}
                person(0, 0) row(0, 48) cell(0, {4, 6}, 9) cell(0, 5, -1)
                can(0, {194, 195, 196}, 2, 2) = 0  cost(0, {194, 195, 196}, 2, 2) = {0, 9, 9}    # the NEVER is skipped
                cost(0, {531, 532, 533, 534}, 3, 2) = {9, 18, 9, 9}       # the 9 is paid twice
                """);
    }

    private static void people() {
        about("people who must, may, or of whom one has to come", """
                land(0) person(0, {0, 0, 0, 0, 0}) series(1, NONE, NONE) option(0, 10)
                role(0, 0, 1) role(0, 1, 2) role(0, {2, 3}, 3)
                plan(0, 0, 6, 0) = 0  comes({0..4}, 0, 0, 0) = {1, 1, 1, 1, 0}
                cant(1, 0, 0) = 0  cant(2, 0, 0) = 1  fits(0, 0, 0, NONE, 2) = 1  comes({0..4}, 0, 0, 2) = {1, 0, 0, 1, 0}
                cant(3, 0, 0) = 2  fits(0, {0, 1}, 0, NONE, 3) = {0, 1}   # no one of the group is left
                cant(0, 0, 1) = 3  fits(0, 1, 0, NONE, {3, 4}) = {1, 0}   # who must can't
                cant(4, 0, 2) = 4  fits(0, 2, 0, NONE, 5) = 1
                """);
        about("what an hour costs each", """
                land({0, 24}) person({0, 1}, 0) row({0, 1}, 48) cell({0, 1}, {10, 11}, {7})
                cost(0, {8, 9, 10, 11, 12}, 2, 0) = {0, 7, 14, 7, 0}
                cost(1, {32, 33, 34, 35, 36}, 2, 0) = {0, 7, 14, 7, 0}    # its morning is twelve hours later
                series(2, NONE, NONE) option(0, {10, 33, 22}) role(0, {0, 1}, 1)
                plan(0, 0, 1, 0) = 0  planned(0, 0, 0) = 2  sum({0, 1}, 0) = 0
                busy(0, 22, 23, false) = 0  plan(0, 0, 1, 1) = 7  planned(0, 0, 0) = 1  sum({0, 1}, 1) = {0, 7}
                busy(1, 33, 34, true) = 1  plan(0, 0, 1, 2) = 14  planned(0, 0, 0) = 0  sum({0, 1}, 2) = {14, 0}
                """);
    }

    private static void plans() {
        about("rows of weeks whose costs are evened, the greatest first", """
                land(0) person(0, {0, 0}) row({0, 1}, 48) cell(0, 10, 4) cell(1, 20, 4)
                series(1, NONE, NONE) option(0, {10, 20}) role(0, {0, 1}, 1)
                plan(0, 0, 6, 0) = 12  planned(0, {0..5}, 0) = {0, 0, 0, 1, 1, 1}  sum({0, 1}, 0) = 12
                cell(1, 20, 3) plan(0, 0, 6, 0) = 12                      # 12 and 8, not 12 and 9
                planned(0, {0..5}, 0) = {0, 0, 1, 1, 1, 1}  sum({0, 1}, 0) = {8, 12}
                plan(0, 6, 7, 0) = 3  sum({0, 1}, 0) = {8, 15}            # each PLAN by itself
                """);
        about("who can't all come, told as the least set", """
                land(0) person(0, {0, 0, 0, 0}) series(1, NONE, NONE) option(0, {10, 20, 30}) role(0, {0..3}, 1)
                busy(0, 10, 11, false) busy(1, 20, 21, false) busy(2, 30, 31, false)
                plan(0, 0, 1, 3) = NONE  stuck({0..3}) = {0, 1, 2, NONE}
                busy(3, 10, 21, false) plan(0, 0, 1, 4) = NONE  stuck({0..2}) = {2, 3, NONE}
                plan(0, 1, 2, 4) = 0  stuck(0) = NONE
                """);
        about("halves for two sides of the world", """
                land({0, 24}) person({0, 0, 1, 1, 0}, 0)
                row({0..3}, 37) cell({0..3}, {0..17}, -1) cell({0..3}, 36, -1)
                series(1, NONE, {NONE, 4}) option({0, 1}, {20, 44}) role({0, 1}, {0..3}, 1)
                fits(0, 0, {0, 1}, NONE, 0) = 0  plan(0, 0, 1, 0) = NONE  stuck({0, 1, 2}) = {0, 2, NONE}
                fits(1, 0, 0, 1, 0) = 1  plan(1, 0, 4, 0) = 0  comes({0..4}, 1, 3, 0) = {1, 1, 2, 2, 3}
                planned(1, 3, {2, 3}) = {1028, 1052}  local({0, 1}, {1028, 1052}, 0, 1) = {20, 44, 44, 20}
                """);
    }

    private static void moves() {
        about("moves that change as few meetings as can be", """
                land(0) person(0, {0, 0}) series(1, NONE, {NONE, NONE, NONE}) option({0, 1, 2}, {10, 20, 30, 40})
                role({0, 1, 2}, 0, 1) role(2, 1, 1) plan({0, 1, 2}, 0, 2, 0) = 0  planned({0, 1, 2}, 0, 0) = {0, 1, 2}
                busy(1, 30, 31, false) = 0  move(0, 1) = 1  planned({0, 1, 2}, 0, 0) = {0, 1, 3}
                busy(1, 40, 41, false) = 1                                # SERIES 2 now needs what 0 or 1 has
                move(0, 2) = 2  planned({0, 1, 2}, 0, 0) = {0, 2, 1}
                busy(1, 20, 21, true) = 2  move(0, 3) = 2  planned({0, 1, 2}, 0, 0) = {1, 2, 0}
                planned({0, 1, 2}, 1, 0) = {0, 1, 2}  move(1, 3) = 0      # another WEEK stays
                """);
    }

    /** Told to the brim, the last of the 512 calls is still answered; ObjectsTest goes beyond. */
    private static void calls() {
        about("An object is used for at most 512 calls after it has been made; what later calls answer is free.", """
                land(0) change(0, {0..399}, 1) = {0..399}  local(0, {0..109}, 400, 3) = 1  count(2) = 400
                """);
    }
}
