import java.lang.reflect.Array;
import java.lang.reflect.Field;
import java.lang.reflect.Modifier;
import java.util.IdentityHashMap;
import java.util.Map;
import java.util.Random;

/** The dearest calls end soon, and a full object stays far below the room that all calls of a run share. */
public final class RoomTest {
    private static final long MOST_SECONDS = 60;
    private static int wrong;

    public static void main(String[] args) throws Exception {
        long start = System.nanoTime();
        for (int mode = 0; mode < 4; mode++) fullRun(mode);
        long seconds = (System.nanoTime() - start) / 1000000000L;
        check(seconds < MOST_SECONDS, "the dearest calls took " + seconds + " seconds");
        System.out.println(wrong == 0 ? "room and time suffice" : wrong + " checks failed");
        if (wrong != 0) System.exit(1);
    }

    private static void check(boolean is, String what) {
        if (!is) {
            wrong++;
            System.out.println(what);
        }
    }

    private static void fullRun(int mode) throws Exception {
        Random random = new Random(mode);
        ClockCall x = new ClockCall();
        for (int l = 0; l < 8; l++) x.land(l);
        for (int p = 0; p < 12; p++) {
            x.person(mode == 3 ? 0 : p % 8, 0);
            if (mode == 3) continue;
            x.row(p, 20);
            for (int c = 0; c < 20; c++) x.cell(p, c, mode == 1 ? 1 + random.nextInt(3) : random.nextInt(101));
        }
        for (int s = 0; s < 4; s++) {
            x.series(mode == 2 ? 6 : 1, -1, s);
            for (int o = 0; o < 6; o++) x.option(s, mode == 2 ? s * 48 + o * 6 : random.nextInt(7) * 48 + random.nextInt(14));
            for (int p = 0; p < 12; p++) x.role(s, p, 2);
        }
        for (int f = 0; f < 330 && mode == 3; f++) x.change(0, random.nextInt(17472), random.nextInt(53) - 24);
        int known = x.count(2);
        for (int s = 0; s < 4; s++) {
            for (int week = 0; week < 52; week += 4) {
                check(x.plan(s, week, week + 4, known) >= 0, "no plan of " + s + " for week " + week);
            }
        }
        check(x.count(4) == 208, "not all is planned");
        check(x.sum(0, known) > 0 || mode == 3, "no sum");
        check(x.shifted(0, known) >= 0, "not shifted");
        for (int s = 0; s < 4 && mode != 3; s++) {
            int at = x.planned(s, 0, 2);
            x.busy(s, at, at + 1, false);
        }
        check(x.move(0, x.count(2)) == (mode == 3 ? 0 : 4), "not moved as due");
        long[] held = held(x, new IdentityHashMap<>());
        check(held[0] < 1000 && held[1] < 10000, "an object holds " + held[0] + " objects and " + held[1] + " fields");
    }

    private static long[] held(Object o, Map<Object, Object> seen) throws Exception {
        long[] all = {0, 0};
        if (o == null || seen.put(o, o) != null) return all;
        all[0]++;
        if (o.getClass().isArray()) {
            all[1] += Array.getLength(o);
            if (!o.getClass().getComponentType().isPrimitive()) {
                for (Object part : (Object[]) o) add(all, held(part, seen));
            }
            return all;
        }
        for (Field f : o.getClass().getDeclaredFields()) {
            if (Modifier.isStatic(f.getModifiers())) continue;
            all[1]++;
            f.setAccessible(true);
            if (!f.getType().isPrimitive()) add(all, held(f.get(o), seen));
        }
        return all;
    }

    private static void add(long[] all, long[] more) {
        all[0] += more[0];
        all[1] += more[1];
    }
}
