import java.util.Random;

/** Makes DEALS, LAWS and WORDS, right ones and spoilt ones, the same ones for the same seed. */
final class Texts {
    private static final String[] THINGS = {"coin", "mule", "cloth", "house", "work", "grain"};
    private static final String[] EVENTS = {"dies", "rain", "war", "dear", "flood"};
    private static final String[] FORMS = {"pass", "gift", "sale", "hire", "any"};
    private static final String[] SCRAPS = {"{", "}", ",", ";", " ", "\n", "0", "9", "a", "h", "i", "z", "A", "@",
        "\u00e9", "at", "paid", "back", "or", "else", "times", "after", "choice", "if", "bar", "then", "within",
        "same", "more", "of", "any", "10000", "00001", "0001", "400", "399"};

    private final Random random;
    private int leaves;
    private int choices;
    int hands = 4;
    int things = 2;
    int events = 2;

    Texts(long seed) {
        random = new Random(seed);
    }

    int below(int bound) {
        return random.nextInt(bound);
    }

    boolean oneIn(int many) {
        return random.nextInt(many) == 0;
    }

    String deal() {
        leaves = 0;
        choices = 0;
        switch (below(6)) {
            case 0: return coinLater();
            case 1: return soldAndBought();
            case 2: return all(0, 2);
            case 3: return all(0, 3);
            case 4: return half(coinLater());
            default: return oneIn(2) ? half(soldAndBought()) : all(0, 1);
        }
    }

    /** Deeply nested, with few kinds of LEAVES, so that parts are often alike. */
    String nested() {
        leaves = 0;
        choices = 0;
        return all(0, 5);
    }

    /** A DEAL that does the same, or nearly. */
    String likeIt(String text) {
        String event = EVENTS[below(events)];
        String other = oneIn(2) ? text : text + "," + new Texts(below(9)).deal();
        switch (below(7)) {
            case 0: return "times 1 {" + text + "}";
            case 1: return "after " + (oneIn(3) ? 1 : 0) + " {" + text + "}";
            case 2: return "if " + event + " {" + text + "} else {" + other + "}";
            case 3: return "if " + event + " {" + other + "} else {" + text + "}";
            case 4: return "choice a {" + text + "} or {" + other + "}";
            case 5: return "choice b {" + other + "} or {" + text + "}";
            default: return text + ",if " + event + " {" + new Texts(below(9)).deal() + "}";
        }
    }

    private String hand() {
        return "" + (char) ('a' + below(hands));
    }

    private String two() {
        int one = below(hands);
        int other = (one + 1 + below(hands - 1)) % hands;
        return (char) ('a' + one) + " " + (char) ('a' + other);
    }

    private String number() {
        switch (below(12)) {
            case 0: return "0";
            case 1: return "9999";
            case 2: return "00" + below(10);
            default: return "" + below(4);
        }
    }

    private String day() {
        return oneIn(15) ? "399" : "" + below(5);
    }

    private String all(int depth, int most) {
        StringBuilder text = new StringBuilder(part(depth, most));
        int more = below(3);
        for (int i = 0; i < more && leaves < 12; i++) {
            text.append(oneIn(3) ? ", " : ",").append(part(depth, most));
        }
        return text.toString();
    }

    private String part(int depth, int most) {
        int kind = depth >= most || leaves > 9 ? 0 : below(9);
        switch (kind) {
            case 5: return "after " + (oneIn(3) ? 0 : below(6)) + block(depth, most);
            case 6: return "times " + (oneIn(2) ? below(2) : below(10)) + block(depth, most);
            case 7: return "if " + EVENTS[below(events)] + block(depth, most) + second("else", depth, most);
            case 8:
                if (choices >= 3) {
                    return leaf();
                }
                choices++;
                return "choice " + hand() + block(depth, most) + second("or", depth, most);
            default: return leaf();
        }
    }

    private String block(int depth, int most) {
        return (oneIn(3) ? " {" : "{") + all(depth + 1, most) + "}";
    }

    private String second(String between, int depth, int most) {
        return oneIn(3) ? "" : between + block(depth, most);
    }

    private String leaf() {
        leaves++;
        int form = below(4);
        String text = FORMS[form] + " " + two() + " " + THINGS[below(things)] + " " + number();
        if (form >= 2) {
            text += " for " + number();
        }
        int at = below(5);
        text += " at " + at;
        if (form == 3) {
            text += " back " + (at + below(4));
        } else if (form == 2 && oneIn(2)) {
            text += " paid " + (at + below(4));
        }
        return text;
    }

    private String coinLater() {
        String l = hand();
        String b = hand();
        while (b.equals(l)) {
            b = hand();
        }
        int now = 1 + below(9);
        int at = below(4);
        String out = "pass " + l + " " + b + " coin " + now + " at " + at;
        String back = "pass " + b + " " + l + " coin " + (now + below(4)) + " at " + (at + below(6));
        String dearer = "pass " + b + " " + l + " coin " + (now + below(9)) + " at " + (at + below(9));
        switch (below(5)) {
            case 0: return out + ",if " + EVENTS[below(events)] + " {" + back + "} else {" + dearer + "}";
            case 1: return out + ",choice " + b + " {" + back + "} or {" + dearer + "}";
            case 2: return "times " + below(10) + " {times 9 {" + out + "}},times " + below(10) + " {times 9 {"
                    + back + "," + dearer + "}}";
            default: return oneIn(2) ? out + "," + back : back + "," + out;
        }
    }

    private String soldAndBought() {
        String l = hand();
        String b = hand();
        while (b.equals(l)) {
            b = hand();
        }
        int now = 1 + below(9);
        String thing = " " + THINGS[1 + below(Math.max(1, things - 1))] + " " + (1 + below(2));
        return "sale " + l + " " + b + thing + " for " + (now + below(4)) + " at 0 paid " + (1 + below(6)) + ",sale "
                + b + " " + l + thing + " for " + now + " at " + below(2);
    }

    /** One of two sides of a DEAL, so that it takes two DEALS for a LOAN. */
    private String half(String text) {
        int comma = text.lastIndexOf(",pass");
        comma = comma < 0 ? text.lastIndexOf(",sale") : comma;
        if (comma < 0 || text.indexOf('{') >= 0) {
            return text;
        }
        return oneIn(2) ? text.substring(0, comma) : text.substring(comma + 1);
    }

    String rules(int most) {
        StringBuilder text = new StringBuilder();
        int many = oneIn(8) ? 0 : 1 + below(most);
        for (int i = 0; i < many; i++) {
            text.append("bar ").append(FORMS[below(5)]);
            if (oneIn(2)) {
                text.append(" of ").append(THINGS[below(things)]);
            }
            if (!oneIn(3)) {
                text.append(" then ").append(FORMS[below(5)]);
                text.append(oneIn(3) ? " of " + THINGS[below(things)] : "");
                text.append(oneIn(3) ? " back" : "").append(oneIn(3) ? " same" : "").append(oneIn(3) ? " more" : "");
                text.append(oneIn(9) ? " back" : "");
                text.append(oneIn(3) ? " within " + below(5) : "");
            }
            text.append(oneIn(4) ? " ; " : ";");
        }
        return text.toString();
    }

    String spoilt(String text) {
        String now = text;
        int many = 1 + below(2);
        for (int i = 0; i < many; i++) {
            int place = below(now.length() + 1);
            int past = Math.min(now.length(), place + below(4));
            switch (below(4)) {
                case 0: now = now.substring(0, place); break;
                case 1: now = now.substring(0, place) + now.substring(past); break;
                case 2: now = now.substring(0, place) + SCRAPS[below(SCRAPS.length)] + now.substring(place); break;
                default: now = now.substring(0, place) + SCRAPS[below(SCRAPS.length)] + now.substring(past);
            }
        }
        return now;
    }
}
