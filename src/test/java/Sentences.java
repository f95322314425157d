import java.io.IOException;
import java.nio.file.Files;
import java.nio.file.Path;
import java.util.ArrayList;
import java.util.List;

/**
 * Tests of single sentences: each quotes the words that it is about, which have to stand in that part of the
 * document, and tells a run of calls that shows whether they hold. The plain one has to answer as is due, too,
 * since other tests rely on it. At the end each word of a part has to be quoted, so no sentence goes without a run.
 */
final class Sentences {
    static final int TERMS = 0;
    static final int WHAT_IT_IS = -1;

    private static final Path DOCUMENT = Path.of("../shared/DOC.md");

    /** What may stand between two quotes: headings of parts, marks of code, and words that but join. */
    private static final String JOINTS = "==== I+\\.|```(text)?|\\b(and|or)\\b";

    private record Quote(int promise, String words) { }

    private final String document;
    private final List<Quote> quotes = new ArrayList<>();
    private int sentences;
    private int answers;
    private int wrong;

    Sentences() throws IOException {
        document = Files.exists(DOCUMENT) ? oneLine(Files.readString(DOCUMENT)) : null;
    }

    void holds(int promise, String words, String run) {
        sentences++;
        quotes.add(new Quote(promise, oneLine(words)));
        String where = heading(promise) + " \"" + words + "\"";
        if (document != null && !section(promise).contains(oneLine(words))) {
            report(where + ": the document does not say so there");
        }
        check(where, run, new Script.Subject(new ClockCall()));
        check(where + " (the plain one)", run, new Script.Subject(new PlainClockCall()));
    }

    private void check(String where, String run, Script.Subject subject) {
        for (Script.Call call : Script.parse(run)) {
            int answer = subject.answer(call);
            answers++;
            if (!call.isMetBy(answer)) {
                String due = call.due() == null ? "not refused" : call.due().toString();
                report(where + ": " + call.text() + " answered " + answer + ", due is " + due);
            }
        }
    }

    void mustAllBeQuoted(int promise) {
        if (document == null) return;
        String text = body(promise);
        StringBuilder left = new StringBuilder(text);
        for (Quote quote : quotes) {
            int at = quote.promise() == promise ? text.indexOf(quote.words()) : -1;
            for (int k = 0; at >= 0 && k < quote.words().length(); k++) left.setCharAt(at + k, '|');
        }
        for (String words : left.toString().replaceAll(JOINTS, "|").split("\\|+")) {
            if (words.matches(".*\\w.*")) report(heading(promise) + " no run is about \"" + words.trim() + "\"");
        }
    }

    private void report(String what) {
        wrong++;
        System.out.println(what);
    }

    private String section(int promise) {
        int from = document.indexOf("## " + heading(promise));
        int to = from < 0 ? -1 : document.indexOf(" ## ", from);
        return from < 0 ? "" : document.substring(from, to < 0 ? document.length() : to);
    }

    /** A part without its heading and the method that it is about. */
    private String body(int promise) {
        return section(promise).replaceFirst("## (What it is|Terms|Promise \\d+: .*?`[^`]*`:)", "");
    }

    private static String heading(int promise) {
        return promise == WHAT_IT_IS ? "What it is" : promise == TERMS ? "Terms" : "Promise " + promise + ":";
    }

    private static String oneLine(String text) {
        return text.replaceAll("\\s+", " ");
    }

    void end() {
        System.out.println(sentences + " sentences, " + answers + " answers, " + wrong + " not as due");
        if (wrong != 0) System.exit(1);
    }
}
