import java.lang.reflect.Method;
import java.lang.reflect.Modifier;
import java.nio.file.Files;
import java.nio.file.Path;
import java.util.HashMap;
import java.util.Map;
import java.util.Set;
import java.util.TreeSet;
import java.util.regex.Matcher;
import java.util.regex.Pattern;

/** README.md tells the truth: its example answers as it says, and its table has each call with what a refused one answers. */
public final class ReadmeTest {
    private static final Pattern CALL =
            Pattern.compile("(?:(?:int|boolean) (\\w+) = )?calls\\.(\\w+)\\(([^)]*)\\);\\s*// (-?\\d+|true|false)\\b.*");
    private static final Pattern ROW = Pattern.compile("^\\| `(\\w+)\\(([^)]*)\\)` \\|.*\\| `(\\S+)` \\|$", Pattern.MULTILINE);

    private static final Map<String, Method> METHODS = new HashMap<>();
    private static int asked;
    private static int wrong;

    public static void main(String[] args) throws Exception {
        for (Method m : ClockCall.class.getDeclaredMethods()) {
            if (Modifier.isPublic(m.getModifiers())) METHODS.put(m.getName(), m);
        }
        String text = Files.readString(Path.of("README.md"));
        example(text);
        table(text, Files.readString(Path.of("src/main/java/ClockCall.java")));
        check(text.contains(".ci/run"), "it says how to run the tests");
        System.out.println(asked + " checks, " + wrong + " of them failed");
        if (wrong != 0) System.exit(1);
    }

    private static void check(boolean is, String what) {
        asked++;
        if (!is) {
            wrong++;
            System.out.println("README.md: " + what);
        }
    }

    private static void example(String text) throws Exception {
        int from = text.indexOf("```java"), to = text.indexOf("```", from + 3);
        Map<String, Integer> names = new HashMap<>(Map.of("true", 1, "false", 0, "ClockCall.NONE", ClockCall.NONE));
        Set<String> used = new TreeSet<>();
        ClockCall calls = new ClockCall();
        for (String line : text.substring(from, to).split("\n")) {
            Matcher found = CALL.matcher(line);
            if (!found.matches()) {
                check(!line.contains("calls."), "no answer is told in: " + line);
                continue;
            }
            int answer = answer(calls, found.group(2), found.group(3).split(", "), names);
            check(answer == value(found.group(4), names), line + ", but it answers " + answer);
            if (found.group(1) != null) names.put(found.group(1), answer);
            used.add(found.group(2));
        }
        check(used.equals(METHODS.keySet()), "the example uses each call, but it has " + used);
    }

    private static void table(String text, String code) throws Exception {
        Set<String> told = new TreeSet<>();
        Matcher row = ROW.matcher(text);
        while (row.find()) {
            Method m = METHODS.get(row.group(1));
            told.add(row.group(1));
            String face = "public \\w+ " + row.group(1) + "\\(" + row.group(2).replaceAll("(\\w+)", "\\\\w+ $1") + "\\)";
            check(Pattern.compile(face).matcher(code).find(), "the parameters are others in: " + row.group());
            String[] vain = new String[m.getParameterCount()];
            for (int k = 0; k < vain.length; k++) vain[k] = m.getParameterTypes()[k] == int.class ? "MIN" : "true";
            Map<String, Integer> names = Map.of("true", 1, "false", 0, "NONE", ClockCall.NONE, "MIN", Integer.MIN_VALUE);
            int answer = answer(new ClockCall(), row.group(1), vain, names);
            check(answer == value(row.group(3), names), "refused it answers " + answer + ": " + row.group());
        }
        check(told.equals(METHODS.keySet()), "the table has each call, but it has " + told);
    }

    private static int value(String text, Map<String, Integer> names) {
        return names.containsKey(text) ? names.get(text) : Integer.parseInt(text);
    }

    private static int answer(ClockCall calls, String name, String[] args, Map<String, Integer> names) throws Exception {
        Method m = METHODS.get(name);
        Object[] values = new Object[args.length];
        for (int k = 0; k < args.length; k++) {
            int v = value(args[k], names);
            values[k] = m.getParameterTypes()[k] == boolean.class ? (Object) (v != 0) : (Object) v;
        }
        Object answer = m.invoke(calls, values);
        return answer instanceof Boolean is ? (is ? 1 : 0) : (Integer) answer;
    }
}
