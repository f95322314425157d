import java.util.ArrayList;
import java.util.List;

/**
 * "NONE, and nothing happens": two objects are told the same, one of them is also called in vain, and then both
 * are asked about all that there is, and told more. They have to answer alike. So they have if one was but asked.
 */
public final class RefusedTest {
    private static int wrong;
    private static int pairs;

    /** Something of each kind, plans in some weeks, a stuck person, a week that can't be moved. */
    private static final String MIXED = """
            land({0, -24, 28})
            person({0, 1, 2, 0}, 0) row(0, 48) cell(0, {10, 20}, 3) cell(0, 40, -1) row(1, 2) cell(1, 1, 2) row(3, 1) cell(3, 0, 1)
            change(0, 700, 2) feast(1, 9) busy(0, 346, 347, true) busy(3, 20, 21, false)
            series(2, NONE, NONE) series(1, 0, 3) series(1, NONE, NONE)
            option(0, {10, 20}) option(1, {30, 40, 50}) option(2, {60, 61})
            role(0, 0, 1) role(0, 1, 2) role(1, 0, 3) role(2, {0, 3}, 1)
            plan(0, 0, 3, 4) plan(1, 0, 2, 4)
            cant(0, 2, 4) cant(0, 0, 2)
            plan(2, 4, 5, 5) = NONE
            """;
    private static final String ALL_OF_MIXED = """
            count({0..4}) stuck({0, 1})
            local({0, 1, 2}, {0, 23, 700, 17471}, {0, 6}, {0, 1, 3}) when({0, 1, 2}, {0, 14}, 10, 6, {0, 1})
            can({0..3}, {10, 40, 346, 450}, 2, {0, 6}) cost({0..3}, {10, 20, 47}, 2, 6) span({0, 3}, {20, 346}, 6)
            fits(0, {0, 1, 2, 4}, {0, 1}, NONE, 6) fits(1, {0, 1}, 0, {1, 2}, 6) fits(2, {0, 4}, {0, 1}, NONE, 6)
            planned({0, 1, 2}, {0, 1, 2, 4}, {0, 1}) comes({0..3}, {0, 1}, {0, 1, 2}, {0, 6})
            sum({0..3}, {0, 6}) shifted(0, 6)
            land(1) person(0, 3) cell({0, 1, 2, 3}, {0, 1}, 5) option({0, 1, 2}, 5) series(1, NONE, NONE)
            change(0, 0, 1) feast(0, 5) busy(0, 2, 3, false) cant(0, 0, 1)
            local({0, 3}, 0, 7, 3) fits({0, 2, 3}, 0, {1, 2}, NONE, 10)
            move({0, 1, 2}, {6, 10}) planned({0, 1, 2}, {0, 1, 2}, {0, 1})
            plan({0, 1, 2}, 0, 1, {6, 10}) planned({0, 1, 2}, 0, {0, 1}) stuck(0) count({0..4})
            """;
    private static final String IN_VAIN = """
            land({-25, 29, MIN, MAX}) = NONE
            person({-1, 3, 8, MIN, MAX}, 0) = NONE  person(0, {-1, 128, MIN, MAX}) = NONE
            row({-1, 4, MIN, MAX}, {NONE, 1}) = false  row(0, {-2, 0, 49, MIN, MAX}) = false
            cell({-1, 4, MIN, MAX}, 0, 1) = false  cell(0, {-1, 48, MIN, MAX}, 1) = false  cell({1, 2, 3}, 2, 1) = false
            cell(0, 10, {-2, 101, 256, MIN, MAX}) = false
            change({-1, 3, MIN, MAX}, 0, 9) = NONE  change(0, {-1, 17472, MIN, MAX}, 9) = NONE  change(0, 0, {-25, 29, MIN, MAX}) = NONE
            feast({-1, 3, MIN, MAX}, 0) = NONE  feast(0, {-1, 364, MIN, MAX}) = NONE
            busy({-1, 4, MIN, MAX}, 0, 9, true) = NONE  busy(0, {-1, 12, 13, MIN, MAX}, 12, true) = NONE
            busy(0, 0, {-1, 0, 17473, MIN, MAX}, true) = NONE
            cant({-1, 4, MIN, MAX}, 0, 0) = NONE  cant(0, {-1, 3, MIN, MAX}, 0) = NONE  cant(0, 0, {-1, 52, MIN, MAX}) = NONE
            series({0, 7, MIN, MAX}, NONE, NONE) = NONE  series(1, {-2, 3, MIN, MAX}, NONE) = NONE  series(1, NONE, {-2, 4, MIN, MAX}) = NONE
            option({-1, 3, MIN, MAX}, 0) = NONE  option(0, {-1, 336, MIN, MAX}) = NONE
            role({-1, 3, MIN, MAX}, 0, 1) = false  role(0, {-1, 4, MIN, MAX}, 1) = false  role(0, 0, {-1, 6, MIN, MAX}) = false
            local({-1, 3}, 0, 0, 0) = -1000000  local(0, {-1, 17472}, 0, 0) = -1000000  local(0, 0, {-1, 7}, 0) = -1000000
            local(0, 0, 0, {-1, 4}) = -1000000
            when({-1, 3}, 0, 0, 0, 0) = NONE  when(0, {-2, 365}, 0, 0, 0) = NONE  when(0, 0, {-1, 48}, 0, 0) = NONE
            when(0, 0, 0, {-1, 7}, 0) = NONE  when(0, 0, 0, 0, {-1, 3}) = NONE
            can({-1, 4}, 0, 1, 0) = NONE  can(0, {-1, 17472}, 1, 0) = NONE  can(0, 0, {0, 7}, 0) = NONE  can(0, 0, 1, {-1, 7}) = NONE
            cost({-1, 4}, 0, 1, 0) = NONE  cost(0, {-1, 17472}, 1, 0) = NONE  cost(0, 0, {0, 7}, 0) = NONE  cost(0, 0, 1, {-1, 7}) = NONE
            span({-1, 4}, 0, 0) = NONE  span(0, {-1, 17472}, 0) = NONE  span(0, 0, {-1, 7}) = NONE
            fits({-1, 3}, 0, 0, NONE, 0) = NONE  fits(0, {-1, 52}, 0, NONE, 0) = NONE  fits(0, 0, {-1, 2}, NONE, 0) = NONE
            fits(0, 0, 0, {0, 1}, 0) = NONE  fits(1, 0, 1, {-1, 0, 1, 3}, 0) = NONE  fits(0, 0, 0, NONE, {-1, 7}) = NONE
            plan({-1, 3, MIN, MAX}, 0, 1, 6) = -2  plan(0, {-1, 1, 2, MIN, MAX}, 1, 6) = -2  plan(0, 0, {-1, 0, 7, 53, MIN, MAX}, 6) = -2
            plan(0, {46, 52}, 53, 6) = -2  plan(1, 0, 5, 6) = -2  plan(0, 0, 1, {-1, 7, MIN, MAX}) = -2
            stuck({-1, 1, MIN, MAX}) = NONE
            move({-1, 52, MIN, MAX}, 6) = -2  move(0, {-1, 7, MIN, MAX}) = -2  move(2, 6) = NONE
            planned({-1, 3}, 0, 0) = NONE  planned(0, {-1, 52}, 0) = NONE  planned(0, 0, {-1, 4}) = NONE
            comes({-1, 4}, 0, 0, 0) = NONE  comes(0, {-1, 3}, 0, 0) = NONE  comes(0, 0, {-1, 9, 52}, 0) = NONE  comes(0, 0, 0, {-1, 7}) = NONE
            sum({-1, 4}, 0) = NONE  sum(0, {-1, 7}) = NONE  shifted({-1, 7}, 0) = NONE  shifted(0, {-1, 7}) = NONE  count({-1, 5}) = NONE
            """;
    /** What is taken, but tells nothing new. */
    private static final String BUT_ASKED = """
            local(1, 0, 6, 0) = -1  when(0, 0, 10, 6, 1) = 10  can(0, 346, 1, 6) = 4  cost(0, 10, 2, 6) = 3  span(0, 346, 6) = -2
            fits(0, 0, 1, NONE, 6) = 1  fits(1, 0, 1, 2, 6) = 1  fits(2, 0, 1, NONE, 6) = 1  stuck(0) = 0  move(0, 6) = 0  move(9, 6) = 0
            planned(1, 0, 1) = 1  comes(0, 1, 0, 6) = 1  sum(3, 6) = 4  shifted(0, 6) = 0  count(4) = 5
            """;

    private static final String FULL = """
            land({0..7}) person({0..7}, 0) person({0..3}, 0)
            series(1, NONE, {NONE, 0}) series(1, {0, 1}, NONE) option({0..3}, {10, 20, 30, 40, 50, 60}) role({0..3}, {0..11}, 2)
            plan({0..3}, 0, 2, 0)
            """;
    private static final String ALL_OF_FULL = """
            count({0..4}) stuck(0) local({0..8}, 0, 0, 3) can({0..12}, 0, 1, 0) sum({0..12}, 0)
            fits({0, 2, 3, 4}, 0, {0..6}, NONE, 0) fits(1, 0, {0, 5}, {1, 5, 6}, 0)
            planned({0..4}, {0, 1}, {0..3}) comes({0..12}, {0..3}, 0, 0)
            role({0..3}, 11, 1) move({0, 1}, 0) planned({0..3}, {0, 1}, {0, 1}) change({7, 8}, 0, 1)
            """;
    private static final String IN_VAIN_OF_FULL = """
            land({-24, 0, 28}) = NONE  person({0, 7}, {0, 127}) = NONE  series({1, 6}, {NONE, 0, 3}, {NONE, 0, 11}) = NONE
            option({0..3}, {0, 10, 335}) = NONE
            """;

    private static final String ALL_FACTS = """
            land(0) person(0, {0, 0}) series(1, NONE, NONE) option(0, {5, 200}) role(0, 0, 1) plan(0, 0, 1, 0)
            busy(0, 100, {101..500}, false)
            """;
    private static final String ALL_OF_ALL_FACTS = """
            count({0..4}) local(0, {0, 9, 17471}, {399, 400, 401}, 3)
            can({0, 1}, {0, 9, 99, 100, 499, 500, 17471}, 1, {399, 400}) span({0, 1}, {0, 9, 99, 100, 499, 500}, {399, 400})
            fits(0, {0, 1, 51}, {0, 1}, NONE, 400) comes({0, 1}, 0, 0, 400) shifted({0, 399}, 400)
            move(0, 400) plan(0, {0, 51}, {1, 52}, 400) stuck(0)
            """;
    private static final String IN_VAIN_OF_ALL_FACTS = """
            change(0, {0, 9, 17471}, 5) = NONE  feast(0, {0, 363}) = NONE
            busy({0, 1}, 0, {10, 17472}, {false, true}) = NONE  cant({0, 1}, 0, {0, 1, 51}) = NONE
            """;

    public static void main(String[] args) {
        compare(MIXED, IN_VAIN, ALL_OF_MIXED);
        compare(MIXED, BUT_ASKED, ALL_OF_MIXED);
        compare(FULL, IN_VAIN_OF_FULL, ALL_OF_FULL);
        compare(ALL_FACTS, IN_VAIN_OF_ALL_FACTS, ALL_OF_ALL_FACTS);
        System.out.println(pairs + " pairs of objects, " + wrong + " of them not alike");
        if (wrong != 0) System.exit(1);
    }

    private static void compare(String world, String inVain, String questions) {
        List<Integer> due = answers(world, null, questions);
        for (Script.Call call : Script.parse(inVain)) {
            pairs++;
            List<Integer> found = answers(world, call, questions);
            if (!found.equals(due)) {
                wrong++;
                System.out.println(call.text() + " was not without effect, or answered wrongly");
            }
        }
    }

    private static List<Integer> answers(String world, Script.Call inVain, String questions) {
        Script.Subject x = new Script.Subject(new ClockCall());
        List<Integer> all = new ArrayList<>();
        for (Script.Call call : Script.parse(world)) {
            if (!call.isMetBy(x.answer(call))) report(call);
        }
        if (inVain != null && !inVain.isMetBy(x.answer(inVain))) report(inVain);
        for (Script.Call call : Script.parse(questions)) all.add(x.answer(call));
        return all;
    }

    private static void report(Script.Call call) {
        wrong++;
        System.out.println(call.text() + " did not answer as due");
    }
}
