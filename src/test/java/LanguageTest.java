import java.lang.reflect.Constructor;
import java.lang.reflect.Field;
import java.lang.reflect.Method;
import java.lang.reflect.Modifier;
import java.nio.file.Files;
import java.nio.file.Path;
import java.util.Set;
import java.util.TreeSet;
import java.util.regex.Matcher;
import java.util.regex.Pattern;

/** The class has the document's face and no other, and keeps to the rules of LANGUAGE.md that can be read off it. */
public final class LanguageTest {
    private static final String[] FACE = {
        "int land(int)", "int person(int, int)", "boolean row(int, int)", "boolean cell(int, int, int)",
        "int change(int, int, int)", "int feast(int, int)", "int busy(int, int, int, boolean)",
        "int cant(int, int, int)", "int series(int, int, int)", "int option(int, int)",
        "boolean role(int, int, int)", "int local(int, int, int, int)", "int when(int, int, int, int, int)",
        "int can(int, int, int, int)", "int cost(int, int, int, int)", "int span(int, int, int)",
        "int fits(int, int, int, int, int)", "int plan(int, int, int, int)", "int stuck(int)",
        "int move(int, int)", "int planned(int, int, int)", "int comes(int, int, int, int)",
        "int sum(int, int)", "int shifted(int, int)", "int count(int)",
    };
    private static final String[] FORBIDDEN = {
        "\\bthrow\\b", "\\bthrows\\b", "\\btry\\b", "\\bcatch\\b", "\\bsynchronized\\b", "\\bassert\\b", "->", "::",
        "\\bstatic\\s*\\{", "\\w+Exact\\b", "\\bprotected\\b", "\\bObject\\b", "\\bequals\\b", "\\bhashCode\\b",
        "\\btoString\\b", "\\b(double|float)\\b", "\\bwhile\\b", "^package\\b", "\\bMath\\.random\\b",
        "\\bSystem\\.(?!arraycopy\\b)",
    };
    private static final int MOST_LINES_OF_METHOD = 60;
    private static int wrong;
    private static int asked;

    private static void check(boolean is, String what) {
        asked++;
        if (!is) {
            wrong++;
            System.out.println("not so: " + what);
        }
    }

    public static void main(String[] args) throws Exception {
        face();
        Set<String> names = new TreeSet<>();
        for (Method m : ClockCall.class.getDeclaredMethods()) {
            if (Modifier.isPublic(m.getModifiers())) names.add(m.getName());
        }
        Class<?>[] inside = ClockCall.class.getDeclaredClasses();
        check(inside.length + 1 <= 12, "there are at most twelve classes");
        for (Class<?> c : inside) {
            check(Modifier.isStatic(c.getModifiers()), c + " is static");
            check(c.getDeclaredClasses().length == 0, c + " has no classes inside");
            for (Method m : c.getDeclaredMethods()) check(!names.contains(m.getName()), m + " has a name of its own");
            members(c);
        }
        members(ClockCall.class);
        String text = Files.readString(Path.of("src/main/java/ClockCall.java"));
        faceAsWritten(text);
        source(text);
        System.out.println(asked + " checks, " + wrong + " of them failed");
        if (wrong != 0) System.exit(1);
    }

    private static void face() throws Exception {
        Class<?> c = ClockCall.class;
        check(Modifier.isPublic(c.getModifiers()) && Modifier.isFinal(c.getModifiers()), "the class is public and final");
        Set<String> due = new TreeSet<>(Set.of(FACE));
        Set<String> found = new TreeSet<>();
        for (Method m : c.getDeclaredMethods()) {
            if (Modifier.isPublic(m.getModifiers())) found.add(signature(m));
            else check(Modifier.isPrivate(m.getModifiers()), m + " is private");
        }
        check(due.equals(found), "the public methods are those of the document: " + found);
        Constructor<?>[] made = c.getDeclaredConstructors();
        check(made.length == 1 && made[0].getParameterCount() == 0 && Modifier.isPublic(made[0].getModifiers()),
                "there is the one public constructor");
        for (Field f : c.getDeclaredFields()) {
            check(Modifier.isPrivate(f.getModifiers()) || f.getName().equals("NONE"), f + " is private");
        }
        check(Modifier.isPublic(c.getDeclaredField("NONE").getModifiers()), "NONE is public");
        check(ClockCall.NONE == -1, "NONE is -1");
    }

    private static String signature(Method m) {
        StringBuilder all = new StringBuilder(m.getReturnType() + " " + m.getName() + "(");
        for (Class<?> p : m.getParameterTypes()) {
            if (all.charAt(all.length() - 1) != '(') all.append(", ");
            all.append(p);
        }
        return all.append(")").toString();
    }

    /** The document's own lines, with the names that it gives to parameters. */
    private static void faceAsWritten(String code) throws Exception {
        Path document = Path.of("../shared/DOC.md");
        if (!Files.exists(document)) return;
        Set<String> due = publicOnes(Files.readString(document));
        check(due.size() == 2 + FACE.length && due.equals(publicOnes(code)), "the public face is as the document writes it: " + due);
    }

    private static Set<String> publicOnes(String text) {
        Set<String> all = new TreeSet<>();
        Matcher found = Pattern.compile("^ {4}public ([^;{\\n]*)[;{]", Pattern.MULTILINE).matcher(text);
        while (found.find()) all.add(found.group(1).trim());
        return all;
    }

    private static void members(Class<?> c) {
        int fields = 0;
        for (Field f : c.getDeclaredFields()) {
            boolean isStatic = Modifier.isStatic(f.getModifiers());
            check(!isStatic || Modifier.isFinal(f.getModifiers()), f + " is final");
            fields += isStatic ? 0 : 1;
        }
        check(fields <= 20, c + " has at most twenty fields");
        for (Method m : c.getDeclaredMethods()) check(m.getParameterCount() <= 7, m + " takes at most seven parameters");
    }

    private static void source(String text) {
        String code = text.replaceAll("(?s)/\\*.*?\\*/", "").replaceAll("//[^\n]*", "");
        for (String word : FORBIDDEN) {
            Matcher found = Pattern.compile(word, Pattern.MULTILINE).matcher(code);
            check(!found.find(), "the source does without " + word);
        }
        Matcher imports = Pattern.compile("^import ([^;]*);", Pattern.MULTILINE).matcher(code);
        while (imports.find()) check(imports.group(1).equals("java.util.Arrays"), "no import of " + imports.group(1));
        int start = 0;
        String[] lines = text.split("\n");
        for (int k = 0; k < lines.length; k++) {
            if (lines[k].matches(" {4,8}[a-zA-Z].*\\) \\{")) start = k;
            if (lines[k].matches(" {4,8}\\}")) check(k - start < MOST_LINES_OF_METHOD, "the method at line " + start + " is short");
        }
    }
}
