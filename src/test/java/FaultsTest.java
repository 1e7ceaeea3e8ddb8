import java.nio.charset.StandardCharsets;
import java.util.ArrayList;
import java.util.List;

/** Texts in which each token in turn is missing, twice there, or another one, and each length of them. */
public final class FaultsTest {
    private static final String[] DEALS = {
        "pass a b coin 1 at 2", "gift c d mule 0 at 399", "sale e f cloth 9999 for 8 at 7 paid 9",
        "hire g h house 1 for 0 at 3 back 3,sale a b work 1 for 2 at 3", "after 5 {times 9 {gift a b grain 1 at 1}}",
        "if flood {gift a b mule 1 at 1} else {pass a b coin 1 at 2},if dies {gift a b mule 1 at 1}",
        "choice h {gift a b mule 1 at 1} or {pass a b coin 1 at 2},choice a {gift a b mule 1 at 1}"};
    private static final String[] RULES = {
        "bar any;bar gift of grain;", "bar pass of coin then sale of mule back same more within 12;bar hire then any;",
        "bar sale then gift within 9;bar any then any back;"};
    private static final String[] OTHERS = {"a", "b", "h", "i", "coin", "grain", "dies", "for", "at", "paid", "back",
        "after", "times", "if", "else", "choice", "or", "pass", "gift", "sale", "hire", "any", "bar", "of", "then",
        "same", "more", "within", "0", "9", "10", "399", "400", "9999", "10000", "00000", "{", "}", ",", ";", "Z", "-",
        "\u00ff", "abcdefg"};

    private static final Check CHECK = new Check();

    public static void main(String[] args) {
        for (String text : DEALS) {
            spoil(text, true);
        }
        for (String text : RULES) {
            spoil(text, false);
        }
        CHECK.end();
    }

    private static void spoil(String text, boolean isDeal) {
        List<String> tokens = new ArrayList<>();
        java.util.regex.Matcher matcher = java.util.regex.Pattern.compile("[a-z]+|[0-9]+|[^ ]").matcher(text);
        while (matcher.find()) {
            tokens.add(matcher.group());
        }
        for (int i = 0; i <= text.length(); i++) {
            hold(text.substring(0, i), isDeal);
        }
        for (int i = 0; i <= tokens.size(); i++) {
            for (String other : OTHERS) {
                hold(with(tokens, i, i, other), isDeal);
                hold(with(tokens, i, i + 1, other), isDeal);
            }
            hold(with(tokens, i, i + 1, ""), isDeal);
            hold(with(tokens, i, i + 2, ""), isDeal);
        }
    }

    private static String with(List<String> tokens, int from, int past, String other) {
        List<String> now = new ArrayList<>(tokens.subList(0, from));
        now.add(other);
        now.addAll(tokens.subList(Math.min(past, tokens.size()), tokens.size()));
        return String.join(" ", now);
    }

    private static void hold(String text, boolean isDeal) {
        LoanNames x = new LoanNames();
        Oracle o = new Oracle();
        int[] n = Check.numbers(text.getBytes(StandardCharsets.ISO_8859_1));
        for (int i = 0; i < n.length; i += 5) {
            x.feed(n[i], n[i + 1], n[i + 2], n[i + 3], n[i + 4]);
            o.feed(n[i], n[i + 1], n[i + 2], n[i + 3], n[i + 4]);
        }
        int length = text.length();
        if (isDeal) {
            CHECK.due("deal " + text, x.deal(length, 0), o.deal(length, 0));
        } else {
            CHECK.due("word " + text, x.word(length), o.word(length));
        }
        CHECK.due("fault of " + text, x.fault(), o.fault());
    }
}
