import java.lang.reflect.Method;
import java.util.ArrayList;
import java.util.HashMap;
import java.util.List;
import java.util.Map;
import java.util.regex.Matcher;
import java.util.regex.Pattern;

/**
 * Runs of calls as text. "land(3) = 0" is a call with the answer that is due; "land(3)" alone must not be refused.
 * "land({3, 29}) = {0, NONE}" are two calls, {0..7} is a range, and several braces in one call stand for all their
 * combinations, the last one's changing first. A number may be a sum of products; NONE, MIN, MAX, true and false
 * are numbers, too. What stands behind # on a line is left out.
 */
final class Script {
    static final int MOST_CALLS = 512;

    private static final Pattern CALL = Pattern.compile("(\\w+)\\s*\\(([^)]*)\\)(?:\\s*=\\s*(\\{[^}]*\\}|[^\\s{]+))?");
    private static final Pattern PART = Pattern.compile("\\{[^}]*\\}|[^,{}]+");

    /** due is null where the call has but not to be refused. */
    record Call(String name, int[] args, Integer due) {
        String text() {
            StringBuilder all = new StringBuilder(name).append("(");
            for (int k = 0; k < args.length; k++) all.append(k == 0 ? "" : ", ").append(args[k]);
            return all.append(")").toString();
        }

        boolean isMetBy(int answer) {
            if (due != null) return answer == due;
            return name.equals("row") || name.equals("cell") || name.equals("role") ? answer == 1 : answer >= 0;
        }
    }

    private Script() { }

    static List<Call> parse(String text) {
        String plain = text.replaceAll("#[^\n]*", "");
        List<Call> all = new ArrayList<>();
        Matcher found = CALL.matcher(plain);
        int end = 0;
        while (found.find()) {
            mustBeBlank(plain.substring(end, found.start()));
            end = found.end();
            addCalls(all, found.group(1), valuesOfParts(found.group(2)), found.group(3));
        }
        mustBeBlank(plain.substring(end));
        return all;
    }

    private static void mustBeBlank(String text) {
        if (!text.isBlank()) throw new IllegalStateException("not a call: " + text);
    }

    private static void addCalls(List<Call> all, String name, List<int[]> parts, String due) {
        int size = 1;
        for (int[] part : parts) size *= part.length;
        int[] dues = due == null ? null : values(due);
        if (dues != null && dues.length != 1 && dues.length != size) {
            throw new IllegalStateException(name + ": " + size + " calls, " + dues.length + " answers");
        }
        for (int k = 0; k < size; k++) {
            int[] args = new int[parts.size()];
            int rest = k;
            for (int a = args.length - 1; a >= 0; a--) {
                args[a] = parts.get(a)[rest % parts.get(a).length];
                rest /= parts.get(a).length;
            }
            all.add(new Call(name, args, dues == null ? null : dues[dues.length == 1 ? 0 : k]));
        }
    }

    private static List<int[]> valuesOfParts(String text) {
        List<int[]> all = new ArrayList<>();
        Matcher found = PART.matcher(text);
        while (found.find()) {
            if (!found.group().isBlank()) all.add(values(found.group()));
        }
        return all;
    }

    private static int[] values(String text) {
        String inside = text.replaceAll("[{}\\s]", "");
        List<Integer> all = new ArrayList<>();
        for (String part : inside.split(",")) {
            int dots = part.indexOf("..");
            int first = value(dots < 0 ? part : part.substring(0, dots));
            int last = dots < 0 ? first : value(part.substring(dots + 2));
            for (int v = first; v <= last; v++) {
                all.add(v);
                if (v == Integer.MAX_VALUE) break;
            }
        }
        return all.stream().mapToInt(Integer::intValue).toArray();
    }

    private static int value(String text) {
        switch (text) {
            case "NONE": return -1;
            case "MIN": return Integer.MIN_VALUE;
            case "MAX": return Integer.MAX_VALUE;
            case "true": return 1;
            case "false": return 0;
            default:
        }
        int all = 0;
        for (String term : text.split("\\+")) {
            int product = 1;
            for (String factor : term.split("\\*")) product *= Integer.parseInt(factor);
            all += product;
        }
        return all;
    }

    /** One object, of the class or of the plain one, that is called by name. */
    static final class Subject {
        private final Object target;
        private final Map<String, Method> methods = new HashMap<>();
        private int calls;

        Subject(Object target) {
            this.target = target;
            for (Method m : target.getClass().getDeclaredMethods()) methods.put(m.getName(), m);
        }

        int answer(Call call) {
            if (++calls > MOST_CALLS) throw new IllegalStateException("more than 512 calls at " + call.text());
            Method m = methods.get(call.name());
            Object[] args = new Object[call.args().length];
            for (int k = 0; k < args.length; k++) {
                boolean isTruth = m.getParameterTypes()[k] == boolean.class;
                args[k] = isTruth ? (Object) (call.args()[k] != 0) : (Object) call.args()[k];
            }
            try {
                Object answer = m.invoke(target, args);
                return answer instanceof Boolean is ? (is ? 1 : 0) : (Integer) answer;
            } catch (ReflectiveOperationException e) {
                throw new IllegalStateException(call.text(), e);
            }
        }
    }
}
