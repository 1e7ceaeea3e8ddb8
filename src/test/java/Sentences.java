import java.io.IOException;
import java.nio.file.Files;
import java.nio.file.Path;
import java.util.Arrays;
import java.util.function.IntToLongFunction;
import java.util.regex.Matcher;
import java.util.regex.Pattern;

/**
 * Answers held against the document sentence by sentence: a test quotes the sentence that it holds the program to, in
 * the document's order, and what of the Terms and the Promises is quoted by no test is told at the end. It runs from
 * the project's root.
 */
final class Sentences {
    static final long NO_SUM = -1_000_000_000_000L;
    // Numbers that are no number of anything told, whatever the call; 9,999 is a DAY, but of net() alone.
    static final int[] NO_NUMBERS = {-2, Integer.MIN_VALUE, Integer.MIN_VALUE + 1, 10_000, 1 << 30, Integer.MAX_VALUE};

    private static final Path DOCUMENT = Path.of("../shared/DOC.md");
    // What is no sentence: headings, signatures (FaceTest holds those), fences and the marks between sections.
    private static final Pattern NO_SENTENCE = Pattern.compile(
        "## Promise \\d+: [A-Za-z ]*?(?= `)|`[^`]*`:|`NONE = -1`|```text|```|==== \\d\\.|## Terms");

    private final Check check = new Check();
    private final boolean isThere;
    private final String document;
    private final boolean[] quoted;
    private int from;
    private String now = "";

    Sentences() throws IOException {
        isThere = Files.exists(DOCUMENT);
        document = isThere ? Files.readString(DOCUMENT).replaceAll("\\s+", " ") : "";
        quoted = new boolean[document.length()];
    }

    /** What is quoted next stands under this heading. */
    void under(String heading) {
        from = Math.max(0, find("## " + heading + " ", 0));
    }

    /** The sentence, or part of one, that the answers from now on are held against. */
    void of(String quote) {
        now = quote;
        if (!isThere) {
            return;
        }
        int place = find(quote, from);
        for (int i = place; i >= 0 && i < place + quote.length(); i++) {
            quoted[i] = true;
        }
        from = Math.max(from, place + quote.length());
    }

    private int find(String text, int start) {
        int place = isThere ? document.indexOf(text, start) : 0;
        check.due("the document, for what stands there next: " + text, place >= 0, true);
        return place;
    }

    void due(String what, long got, long want) {
        check.due("'" + now + "': " + what, got, want);
    }

    void due(String what, boolean got, boolean want) {
        check.due("'" + now + "': " + what, got, want);
    }

    void due(String what, String got, String want) {
        if (!got.equals(want)) {
            System.out.println("got " + got + "\ndue " + want);
        }
        check.due("'" + now + "': " + what + " is as it was", got.equals(want), true);
    }

    /** A DEAL with a FAULT. */
    void fault(String text, int place) {
        LoanNames x = new LoanNames();
        due("deal " + text, Check.deal(x, text), -1);
        due("fault of " + text, x.fault(), place);
        due("deals after " + text, x.count(0), 0);
    }

    /** A DEAL without a FAULT, in a new object, in the BUNDLE. */
    LoanNames well(String text) {
        LoanNames x = new LoanNames();
        due("deal " + text, Check.deal(x, text), 0);
        due("fault of " + text, x.fault(), -1);
        x.add(0);
        return x;
    }

    /** Several DEALS without a FAULT, in a new object, SIGNED on DAY 0, none in the BUNDLE. */
    LoanNames told(String... texts) {
        LoanNames x = new LoanNames();
        for (int i = 0; i < texts.length; i++) {
            due("deal " + texts[i], Check.deal(x, texts[i]), i);
        }
        return x;
    }

    /** The same, all in the BUNDLE. */
    LoanNames bundled(String... texts) {
        LoanNames x = told(texts);
        for (int i = 0; i < texts.length; i++) {
            due("add", x.add(i), i + 1);
        }
        return x;
    }

    /** The same, all OFFERED. */
    LoanNames offered(String... texts) {
        LoanNames x = told(texts);
        for (int i = 0; i < texts.length; i++) {
            due("offer", x.offer(i), i + 1);
        }
        return x;
    }

    /** A call that has the same answer for each of these numbers and all that are no number of anything. */
    void each(String what, IntToLongFunction call, long want, int... numbers) {
        for (int number : numbers) {
            due(what + " " + number, call.applyAsLong(number), want);
        }
        for (int number : NO_NUMBERS) {
            due(what + " " + number, call.applyAsLong(number), want);
        }
    }

    /** What can be asked of an object, so that a call that does nothing can be seen to. */
    static String state(LoanNames x) {
        StringBuilder told = new StringBuilder();
        for (int what = 0; what < 10; what++) {
            told.append(x.count(what)).append(' ');
        }
        for (int deal = 0; deal < x.count(0); deal++) {
            told.append(x.size(deal, 0)).append(x.size(deal, 3)).append(x.size(deal, 4)).append(x.heap(3, deal)).append(' ');
        }
        for (int k = 0; k < x.passed(0, -1, 0); k++) {
            told.append(x.passed(0, k, 0)).append(x.passed(0, k, 1)).append(x.passed(0, k, 4)).append(' ');
        }
        for (int word = 0; word < x.count(3); word++) {
            told.append(x.bars(word));
        }
        for (int honest = 0; honest < x.count(6); honest++) {
            told.append(x.innocent(honest, 0)).append(x.innocent(honest, 10)).append(x.innocent(honest, 15)).append(' ');
        }
        told.append(x.fault()).append(' ').append(x.loan()).append(' ').append(x.breach(0)).append(' ').append(x.breach(1));
        return told.append(' ').append(x.sly(6, 0)).append(' ').append(x.sly(6, 1)).append(' ').append(x.stop(6)).toString();
    }

    /** A LAW with a FAULT that it has as a WORD, too. */
    void ruleFault(String text, int place) {
        LoanNames x = new LoanNames();
        due("law " + text, Check.law(x, text), -1);
        due("fault of law " + text, x.fault(), place);
        due("word " + text, Check.word(x, text), -1);
        due("fault of word " + text, x.fault(), place);
    }

    void rows(LoanNames x, int code, int want) {
        due("rows by " + code, x.passed(code, -1, 0), want);
        due("a row behind the last by " + code, x.passed(code, want, 0), -1);
    }

    /** DAY, HANDS, THING, how much. */
    void row(LoanNames x, int code, int k, long... want) {
        for (int what = 0; what < 5; what++) {
            due("row " + k + " by " + code + ", what " + what, x.passed(code, k, what), want[what]);
        }
    }

    void end() {
        if (isThere) {
            holdQuotes();
        } else {
            System.out.println(DOCUMENT + " isn't there: whether each sentence is quoted wasn't looked at");
        }
        check.end();
    }

    private void holdQuotes() {
        Matcher free = NO_SENTENCE.matcher(document);
        while (free.find()) {
            Arrays.fill(quoted, free.start(), free.end(), true);
        }
        int past = find("## Not promised", 0);
        int start = -1;
        for (int i = find("## Terms", 0); i <= past; i++) {
            boolean open = i < past && (!quoted[i] || document.charAt(i) == ' ' && start >= 0 && !quoted[i + 1]);
            if (open && start < 0) {
                start = i;
            } else if (!open && start >= 0) {
                String left = document.substring(start, i);
                check.due("tests that quote '" + left + "'", left.matches("[^A-Za-z0-9]*"), true);
                start = -1;
            }
        }
    }
}
