import java.math.BigInteger;
import java.nio.charset.StandardCharsets;
import java.util.ArrayList;
import java.util.Arrays;
import java.util.HashMap;
import java.util.List;
import java.util.Map;
import java.util.TreeMap;
import java.util.TreeSet;

/**
 * The document once more, as slowly and plainly as its words go: trees walked anew for each CODE, maps of sums, all
 * sets tried. It shares nothing with the program, so that the two can be held against each other.
 */
final class Oracle {
    static final long NO_SUM = -1_000_000_000_000L;
    private static final List<String> THINGS = List.of("coin", "mule", "cloth", "house", "work", "grain");
    private static final List<String> EVENTS = List.of("dies", "rain", "war", "dear", "flood");
    private static final List<String> FORMS = List.of("pass", "gift", "sale", "hire", "any");

    /** A FAULT's place. */
    private static final class Fault extends RuntimeException {
        final int place;

        Fault(int place) {
            this.place = place;
        }
    }

    private record Token(String text, int place) {
    }

    /** A LEAF as told, without what is around it. */
    private record Leaf(int form, int giver, int taker, int thing, int much, int pay, int at, int late) {
    }

    /** A PART: a LEAF, or a kind with its number (days, times, EVENT, CHOICE) and its parts. */
    private record Part(String kind, Leaf leaf, int number, List<Part> first, List<Part> second) {
    }

    private record Row(int day, int giver, int taker, int thing, long much) {
    }

    private record Placed(Leaf leaf, int at, int late) {
    }

    private static final class Deal {
        List<Part> all;
        int number;
        int signed;
        int choices;
        int events;
        List<Placed> leaves = new ArrayList<>();
    }

    private record Statement(int form, int thing, int form2, int thing2, TreeSet<String> ties, int within) {
    }

    // ---- state

    private final int[] family = {0, 1, 2, 3, 4, 5, 6, 7};
    private byte[] tape = new byte[0];
    private final List<Deal> deals = new ArrayList<>();
    private final List<List<Statement>> laws = new ArrayList<>();
    private final List<List<Statement>> words = new ArrayList<>();
    private int fault = -1;
    private final List<Deal> bundle = new ArrayList<>();
    private final List<Deal> offered = new ArrayList<>();
    private final List<List<Deal>> honest = new ArrayList<>();

    // ---- texts

    private static List<Token> tokens(String text) {
        List<Token> tokens = new ArrayList<>();
        int i = 0;
        while (i < text.length()) {
            char c = text.charAt(i);
            int j = i + 1;
            if (c == ' ' || c == '\n') {
                i++;
                continue;
            }
            String like = c >= 'a' && c <= 'z' ? "abcdefghijklmnopqrstuvwxyz" : c >= '0' && c <= '9' ? "0123456789" : "";
            while (j < text.length() && like.indexOf(text.charAt(j)) >= 0) {
                j++;
            }
            tokens.add(new Token(text.substring(i, j), i));
            i = j;
        }
        tokens.add(new Token("", text.length()));
        return tokens;
    }

    private static final class Reader {
        final List<Token> tokens;
        int at;
        int leaves;
        int choices;
        int events;

        Reader(String text) {
            tokens = tokens(text);
        }

        Token now() {
            return tokens.get(at);
        }

        boolean is(String text) {
            return now().text.equals(text);
        }

        void must(boolean well) {
            if (!well) {
                throw new Fault(now().place);
            }
        }

        void must(String text) {
            must(is(text));
            at++;
        }

        int oneOf(List<String> texts) {
            int i = texts.indexOf(now().text);
            must(i >= 0);
            at++;
            return i;
        }

        int number(int low, int high) {
            must(now().text.matches("[0-9]{1,4}"));
            int n = Integer.parseInt(now().text);
            must(n >= low && n <= high);
            at++;
            return n;
        }

        int hand() {
            must(now().text.matches("[a-h]"));
            at++;
            return tokens.get(at - 1).text.charAt(0) - 'a';
        }

        List<Part> block(int depth) {
            must(is("{") && depth < 6);
            at++;
            List<Part> inside = all(depth + 1);
            must("}");
            return inside;
        }

        List<Part> all(int depth) {
            List<Part> parts = new ArrayList<>();
            parts.add(part(depth));
            while (is(",")) {
                at++;
                parts.add(part(depth));
            }
            return parts;
        }

        Part part(int depth) {
            String kind = now().text;
            if (FORMS.contains(kind) && !kind.equals("any")) {
                return new Part("leaf", leaf(FORMS.indexOf(kind)), 0, null, null);
            }
            if (kind.equals("after") || kind.equals("times")) {
                at++;
                int n = number(0, kind.equals("after") ? 399 : 9);
                return new Part(kind, null, n, block(depth), null);
            }
            if (kind.equals("if")) {
                at++;
                int event = oneOf(EVENTS);
                events |= 1 << event;
                return two(kind, event, depth, "else");
            }
            must(kind.equals("choice") && choices < 3);
            at++;
            int number = choices++;
            hand();
            return two(kind, number, depth, "or");
        }

        Part two(String kind, int number, int depth, String between) {
            List<Part> first = block(depth);
            List<Part> second = new ArrayList<>();
            if (is(between)) {
                at++;
                second = block(depth);
            }
            return new Part(kind, null, number, first, second);
        }

        Leaf leaf(int form) {
            must(leaves < 12);
            leaves++;
            at++;
            int giver = hand();
            must(!is("" + (char) ('a' + giver)));
            int taker = hand();
            int thing = oneOf(THINGS);
            int much = number(0, 9999);
            int pay = 0;
            if (form >= 2) {
                must("for");
                pay = number(0, 9999);
            }
            must("at");
            int day = number(0, 399);
            int late = day;
            if (form == 3) {
                must("back");
                late = number(day, 399);
            } else if (form == 2 && is("paid")) {
                at++;
                late = number(day, 399);
            }
            return new Leaf(form, giver, taker, thing, much, pay, day, late);
        }

        List<Statement> statements(int fewest, int most) {
            List<Statement> all = new ArrayList<>();
            while (!is("")) {
                must(all.size() < most);
                all.add(statement());
            }
            must(all.size() >= fewest);
            return all;
        }

        int thing() {
            if (!is("of")) {
                return -1;
            }
            at++;
            return oneOf(THINGS);
        }

        Statement statement() {
            must("bar");
            int form = oneOf(FORMS);
            int thing = thing();
            int form2 = -1;
            int thing2 = -1;
            int within = -1;
            TreeSet<String> ties = new TreeSet<>();
            if (is("then")) {
                at++;
                form2 = oneOf(FORMS);
                thing2 = thing();
                while (is("back") || is("same") || is("more")) {
                    ties.add(now().text);
                    at++;
                }
                if (is("within")) {
                    at++;
                    within = number(0, 9999);
                }
            }
            must(";");
            return new Statement(form, thing, form2, thing2, ties, within);
        }
    }

    // ---- promises 1 to 7

    boolean family(int hand, int f) {
        if (hand < 0 || hand > 7 || f < 0 || f > 7) {
            return false;
        }
        family[hand] = f;
        return true;
    }

    int feed(int... numbers) {
        if (tape.length + 20 > 600) {
            return -1;
        }
        int length = tape.length;
        tape = Arrays.copyOf(tape, length + 20);
        for (int i = 0; i < 20; i++) {
            tape[length + i] = (byte) (numbers[i / 4] >> 24 - i % 4 * 8);
        }
        return tape.length;
    }

    private String text(int n) {
        String text = new String(tape, 0, n, StandardCharsets.ISO_8859_1);
        tape = new byte[0];
        fault = -1;
        return text;
    }

    int deal(int n, int signed) {
        if (n < 0 || n > tape.length || signed < 0 || signed > 399) {
            return -2;
        }
        if (deals.size() == 24) {
            return -3;
        }
        try {
            Reader reader = new Reader(text(n));
            Deal deal = new Deal();
            deal.all = reader.all(0);
            reader.must(reader.is(""));
            deal.number = deals.size();
            deal.signed = signed;
            deal.choices = reader.choices;
            deal.events = reader.events;
            place(deal.all, 0, deal.leaves);
            deals.add(deal);
            return deal.number;
        } catch (Fault f) {
            fault = f.place;
            return -1;
        }
    }

    private static void place(List<Part> parts, int later, List<Placed> into) {
        for (Part p : parts) {
            if (p.leaf != null) {
                into.add(new Placed(p.leaf, p.leaf.at + later, p.leaf.late + later));
                continue;
            }
            int more = p.kind.equals("after") ? p.number : 0;
            place(p.first, later + more, into);
            if (p.second != null) {
                place(p.second, later + more, into);
            }
        }
    }

    private int rules(int n, List<List<Statement>> into, int fewest, int most, int mostTexts) {
        if (n < 0 || n > tape.length) {
            return -2;
        }
        if (into.size() == mostTexts) {
            return -3;
        }
        try {
            into.add(new Reader(text(n)).statements(fewest, most));
            return into.size() - 1;
        } catch (Fault f) {
            fault = f.place;
            return -1;
        }
    }

    int law(int n) {
        return rules(n, laws, 0, 16, 6);
    }

    int word(int n) {
        return rules(n, words, 1, 12, 12);
    }

    int fault() {
        return fault;
    }

    // ---- promises 8 to 11

    private boolean isDeal(int deal) {
        return deal >= 0 && deal < deals.size();
    }

    private int families(Deal deal) {
        int bits = 0;
        for (Placed p : deal.leaves) {
            bits |= 1 << family[p.leaf.giver] | 1 << family[p.leaf.taker];
        }
        return bits;
    }

    private static int things(Deal deal) {
        int bits = 0;
        for (Placed p : deal.leaves) {
            bits |= 1 << p.leaf.thing;
        }
        return bits;
    }

    int size(int deal, int what) {
        if (!isDeal(deal) || what < 0 || what > 5) {
            return -1;
        }
        Deal d = deals.get(deal);
        return new int[] {d.leaves.size(), d.choices, d.events, d.signed, families(d), things(d)}[what];
    }

    int leaf(int deal, int k, int what) {
        if (!isDeal(deal) || k < 0 || k >= deals.get(deal).leaves.size() || what < 0 || what > 7) {
            return -1;
        }
        Placed p = deals.get(deal).leaves.get(k);
        Leaf l = p.leaf;
        return new int[] {l.form, l.giver, l.taker, l.thing, l.much, l.pay, p.at, p.late}[what];
    }

    private int steps;

    /** What a row of PARTS is, PLAIN. */
    private List<Part> plainRow(List<Part> parts) {
        List<Part> row = new ArrayList<>();
        for (Part p : parts) {
            row.addAll(plainPart(p));
        }
        return row;
    }

    private List<Part> plainPart(Part p) {
        if (p.leaf != null) {
            return List.of(p);
        }
        List<Part> first = plainRow(p.first);
        if (p.kind.equals("after") || p.kind.equals("times")) {
            return plainOne(p, first);
        }
        List<Part> second = plainRow(p.second);
        if (first.isEmpty() && second.isEmpty()) {
            steps++;
            return List.of();
        }
        if (first.equals(second) && !hasChoice(first)) {
            steps++;
            return first;
        }
        return List.of(new Part(p.kind, null, p.number, first, second));
    }

    private List<Part> plainOne(Part p, List<Part> inside) {
        boolean after = p.kind.equals("after");
        if (inside.isEmpty() || !after && p.number == 0) {
            steps++;
            return List.of();
        }
        if (p.number == (after ? 0 : 1)) {
            steps++;
            return inside;
        }
        if (after && inside.size() == 1 && inside.get(0).kind.equals("after")) {
            steps++;
            Part in = inside.get(0);
            return List.of(new Part("after", null, p.number + in.number, in.first, null));
        }
        return List.of(new Part(p.kind, null, p.number, inside, null));
    }

    private static boolean hasChoice(List<Part> parts) {
        for (Part p : parts) {
            if (p.leaf == null && (p.kind.equals("choice") || hasChoice(p.first)
                    || p.second != null && hasChoice(p.second))) {
                return true;
            }
        }
        return false;
    }

    int plain(int deal, int what) {
        if (!isDeal(deal) || what < 0 || what > 1) {
            return -1;
        }
        steps = 0;
        List<Placed> left = new ArrayList<>();
        place(plainRow(deals.get(deal).all), 0, left);
        return what == 0 ? steps : left.size();
    }

    private static void rows(List<Part> parts, int code, int later, long times, List<Row> into) {
        for (Part p : parts) {
            if (p.leaf != null) {
                leafRows(p.leaf, later, times, into);
            } else if (p.kind.equals("after")) {
                rows(p.first, code, later + p.number, times, into);
            } else if (p.kind.equals("times")) {
                if (p.number > 0) {
                    rows(p.first, code, later, times * p.number, into);
                }
            } else if (p.kind.equals("if")) {
                rows((code >> p.number & 1) == 1 ? p.first : p.second, code, later, times, into);
            } else {
                rows((code >> 5 + p.number & 1) == 0 ? p.first : p.second, code, later, times, into);
            }
        }
    }

    private static void leafRows(Leaf l, int later, long times, List<Row> into) {
        into.add(new Row(l.at + later, l.giver, l.taker, l.thing, l.much * times));
        if (l.form == 3) {
            into.add(new Row(l.late + later, l.taker, l.giver, l.thing, l.much * times));
        }
        if (l.form >= 2) {
            into.add(new Row(l.late + later, l.taker, l.giver, 0, l.pay * times));
        }
    }

    private static Map<String, Long> sums(Deal deal, int code) {
        List<Row> rows = new ArrayList<>();
        rows(deal.all, code, 0, 1, rows);
        Map<String, Long> sums = new HashMap<>();
        for (Row r : rows) {
            sums.merge(r.day + " " + r.giver + " " + r.taker + " " + r.thing, r.much, Long::sum);
        }
        sums.values().removeIf(v -> v == 0);
        return sums;
    }

    int same(int one, int other) {
        if (!isDeal(one) || !isDeal(other)) {
            return -2;
        }
        Deal a = deals.get(one);
        Deal b = deals.get(other);
        for (int code = 0; code < 32 << Math.max(a.choices, b.choices); code++) {
            if (!sums(a, code).equals(sums(b, code))) {
                return code;
            }
        }
        return -1;
    }

    // ---- promises 12 to 22

    int add(int deal) {
        if (!isDeal(deal) || bundle.contains(deals.get(deal)) || bundle.size() == 6) {
            return -1;
        }
        bundle.add(deals.get(deal));
        return bundle.size();
    }

    int clear() {
        int many = bundle.size();
        bundle.clear();
        return many;
    }

    private static int choices(List<Deal> b) {
        int choices = 0;
        for (Deal d : b) {
            choices += d.choices;
        }
        return choices;
    }

    private static int events(List<Deal> b) {
        int events = 0;
        for (Deal d : b) {
            events |= d.events;
        }
        return events;
    }

    private static List<Row> rows(List<Deal> b, int code) {
        List<Row> rows = new ArrayList<>();
        int chosen = code >> 5;
        for (Deal d : b) {
            rows(d.all, code & 31 | (chosen & (1 << d.choices) - 1) << 5, 0, 1, rows);
            chosen >>= d.choices;
        }
        return rows;
    }

    private boolean hasCode(int code) {
        return code >= 0 && code < 32 << choices(bundle);
    }

    long passed(int code, int k, int what) {
        if (!hasCode(code)) {
            return -1;
        }
        List<Row> rows = rows(bundle, code);
        if (k == -1 && what == 0) {
            return rows.size();
        }
        if (k < 0 || k >= rows.size() || what < 0 || what > 4) {
            return -1;
        }
        Row r = rows.get(k);
        return new long[] {r.day, r.giver, r.taker, r.thing, r.much}[what];
    }

    private long net(List<Deal> b, int code, int f, int thing, int day) {
        long net = 0;
        for (Row r : rows(b, code)) {
            if (r.thing == thing && (day == -1 || r.day == day)) {
                net += (family[r.taker] == f ? r.much : 0) - (family[r.giver] == f ? r.much : 0);
            }
        }
        return net;
    }

    long net(int code, int f, int thing, int day) {
        if (!hasCode(code) || f < 0 || f > 7 || thing < 0 || thing > 5 || day < -1 || day > 9999) {
            return NO_SUM;
        }
        return net(bundle, code, f, thing, day);
    }

    private static boolean looked(List<Deal> b) {
        return Integer.bitCount(events(b)) + choices(b) <= 8;
    }

    private static List<Integer> allCodes(List<Deal> b) {
        List<Integer> codes = new ArrayList<>();
        int events = events(b);
        for (int code = 0; code < 32 << choices(b); code++) {
            if ((code & 31 & ~events) == 0) {
                codes.add(code);
            }
        }
        return codes;
    }

    int codes() {
        return looked(bundle) ? allCodes(bundle).size() : -1;
    }

    /** Upper and lower number of the PRICE in lowest terms and L's NET over all; null: L does not LEND to B. */
    private long[] lending(List<Deal> b, int code, int l, int bo) {
        long over = net(b, code, l, 0, -1);
        if (over <= 0 || net(b, code, bo, 0, -1) >= 0) {
            return null;
        }
        for (int thing = 1; thing < 6; thing++) {
            if (net(b, code, l, thing, -1) != 0 || net(b, code, bo, thing, -1) != 0) {
                return null;
            }
        }
        TreeMap<Integer, long[]> days = new TreeMap<>();
        for (Row r : rows(b, code)) {
            if (r.thing == 0) {
                long[] two = days.computeIfAbsent(r.day, d -> new long[2]);
                two[0] += (family[r.taker] == l ? r.much : 0) - (family[r.giver] == l ? r.much : 0);
                two[1] += (family[r.taker] == bo ? r.much : 0) - (family[r.giver] == bo ? r.much : 0);
            }
        }
        days.values().removeIf(two -> two[0] == 0);
        long[] first = days.firstEntry().getValue();
        if (first[0] >= 0 || first[1] <= 0) {
            return null;
        }
        boolean above = false;
        for (long[] two : days.values()) {
            if (above && two[0] < 0) {
                return null;
            }
            above |= two[0] > 0;
        }
        BigInteger out = BigInteger.ZERO;
        long till = 0;
        for (int day = days.firstKey(); day <= days.lastKey(); day++) {
            till += days.containsKey(day) ? days.get(day)[0] : 0;
            out = out.add(BigInteger.valueOf(Math.max(0, -till)));
        }
        BigInteger divisor = out.gcd(BigInteger.valueOf(over));
        return new long[] {over / divisor.longValueExact(), out.divide(divisor).longValueExact(), over};
    }

    private static boolean badPair(int l, int b) {
        return l < 0 || l > 7 || b < 0 || b > 7 || l == b;
    }

    private List<long[]> lendings(List<Deal> b, int l, int bo) {
        List<long[]> all = new ArrayList<>();
        for (int code : allCodes(b)) {
            long[] one = lending(b, code, l, bo);
            if (one != null) {
                all.add(one);
            }
        }
        return all;
    }

    int lends(int l, int b) {
        return badPair(l, b) || !looked(bundle) ? -1 : lendings(bundle, l, b).size();
    }

    private static int compare(long[] one, long[] other) {
        return BigInteger.valueOf(one[0]).multiply(BigInteger.valueOf(other[1]))
                .compareTo(BigInteger.valueOf(other[0]).multiply(BigInteger.valueOf(one[1])));
    }

    long price(int l, int b, int what) {
        if (badPair(l, b) || !looked(bundle) || what < 0 || what > 3) {
            return -1;
        }
        List<long[]> all = lendings(bundle, l, b);
        if (all.isEmpty()) {
            return -1;
        }
        all.sort(Oracle::compare);
        return all.get(what < 2 ? 0 : all.size() - 1)[what % 2];
    }

    private int loan(List<Deal> b) {
        if (!looked(b)) {
            return -1;
        }
        List<Integer> codes = allCodes(b);
        for (int l = 0; l < 8; l++) {
            for (int bo = 0; bo < 8; bo++) {
                boolean is = l != bo;
                for (int i = 0; i < codes.size() && is; i++) {
                    is = lending(b, codes.get(i), l, bo) != null;
                }
                if (is) {
                    return 10 * l + bo;
                }
            }
        }
        return -1;
    }

    int loan() {
        return loan(bundle);
    }

    long step() {
        int loan = loan(bundle);
        if (loan == -1) {
            return -1;
        }
        long least = Long.MAX_VALUE;
        for (int code : allCodes(bundle)) {
            least = Math.min(least, net(bundle, code, loan / 10, 0, -1));
        }
        return least;
    }

    long bears(int f, int event) {
        if (f < 0 || f > 7 || event < 0 || event > 4) {
            return NO_SUM;
        }
        return net(bundle, 1 << event, f, 0, -1) - net(bundle, 0, f, 0, -1);
    }

    long cost(int l, int b, int what) {
        if (badPair(l, b) || what < 0 || what > 1) {
            return -1;
        }
        long sum = 0;
        long most = 0;
        int who = -1;
        for (int f = 7; f >= 0; f--) {
            long has = net(bundle, 0, f, 0, -1);
            if (f == l || f == b || has <= 0) {
                continue;
            }
            sum += has;
            if (has >= most) {
                most = has;
                who = f;
            }
        }
        return what == 0 ? sum : who;
    }

    // ---- promises 23 to 30

    /** The LEAVES by which a statement BARS, or null. */
    private int[] barring(Statement s, List<Deal> b) {
        List<Placed> leaves = new ArrayList<>();
        for (Deal d : b) {
            leaves.addAll(d.leaves);
        }
        for (int i = 0; i < leaves.size(); i++) {
            Placed one = leaves.get(i);
            if (!fits(one, s.form, s.thing)) {
                continue;
            }
            if (s.form2 == -1) {
                return new int[] {i, -1};
            }
            for (int j = 0; j < leaves.size(); j++) {
                Placed two = leaves.get(j);
                boolean later = two.at > one.at || two.at == one.at && j > i;
                boolean back = family[two.leaf.taker] == family[one.leaf.giver]
                        && family[two.leaf.giver] == family[one.leaf.taker];
                if (fits(two, s.form2, s.thing2) && later
                        && (!s.ties.contains("back") || back)
                        && (!s.ties.contains("same") || one.leaf.thing == two.leaf.thing)
                        && (!s.ties.contains("more") || two.leaf.pay > one.leaf.pay)
                        && (s.within == -1 || two.at - one.at <= s.within)) {
                    return new int[] {i, j};
                }
            }
        }
        return null;
    }

    private static boolean fits(Placed p, int form, int thing) {
        return (form == 4 || form == p.leaf.form) && (thing == -1 || thing == p.leaf.thing);
    }

    private List<Statement> law() {
        return laws.isEmpty() ? List.of() : laws.get(laws.size() - 1);
    }

    private boolean barred(List<Statement> by, List<Deal> b) {
        for (Statement s : by) {
            if (barring(s, b) != null) {
                return true;
            }
        }
        return false;
    }

    int breach(int what) {
        if (what < 0 || what > 2) {
            return -1;
        }
        for (int i = 0; i < law().size(); i++) {
            int[] by = barring(law().get(i), bundle);
            if (by != null) {
                return what == 0 ? i : by[what - 1];
            }
        }
        return -1;
    }

    int bars(int word) {
        if (word < 0 || word >= words.size()) {
            return -1;
        }
        return barred(words.get(word), bundle) ? 1 : 0;
    }

    int offer(int deal) {
        if (!isDeal(deal) || offered.contains(deals.get(deal)) || offered.size() == 10) {
            return -1;
        }
        offered.add(deals.get(deal));
        return offered.size();
    }

    private List<Deal> chosen(int set) {
        List<Deal> b = new ArrayList<>();
        for (int i = 0; i < offered.size(); i++) {
            if ((set >> i & 1) == 1) {
                b.add(offered.get(i));
            }
        }
        return b;
    }

    /** The SLY sets, the fewest first, of as few the least bits first. */
    private List<Integer> slySets(int k) {
        List<Integer> sets = new ArrayList<>();
        for (int set = 1; set < 1 << offered.size(); set++) {
            if (Integer.bitCount(set) <= k && !barred(law(), chosen(set)) && loan(chosen(set)) != -1) {
                sets.add(set);
            }
        }
        sets.sort((a, b) -> Integer.bitCount(a) != Integer.bitCount(b)
                ? Integer.bitCount(a) - Integer.bitCount(b) : a - b);
        return sets;
    }

    int sly(int k, int what) {
        if (k < 1 || k > 6 || what < 0 || what > 1) {
            return -1;
        }
        List<Integer> sets = slySets(k);
        return what == 0 ? sets.size() : sets.isEmpty() ? -1 : sets.get(0);
    }

    int honest() {
        if (honest.size() == 6 || bundle.isEmpty()) {
            return -1;
        }
        honest.add(new ArrayList<>(bundle));
        return honest.size() - 1;
    }

    int innocent(int h, int what) {
        if (h < 0 || h >= honest.size()) {
            return -1;
        }
        List<Deal> b = honest.get(h);
        if (what == 0) {
            return barred(law(), b) ? 0 : 1;
        }
        if (what == 1) {
            return loan(b);
        }
        return what >= 10 && what - 10 < b.size() ? b.get(what - 10).number : -1;
    }

    private boolean apart(List<Deal> one, List<Deal> other, int code) {
        for (int f = 0; f < 8; f++) {
            for (int thing = 0; thing < 6; thing++) {
                if (net(one, code, f, thing, -1) != net(other, code, f, thing, -1)) {
                    return true;
                }
            }
        }
        return false;
    }

    int parts(int h) {
        if (h < 0 || h >= honest.size() || !looked(honest.get(h)) || !looked(bundle)) {
            return -1;
        }
        if (apart(honest.get(h), bundle, 0)) {
            return -2;
        }
        for (int event = 0; event < 5; event++) {
            if (apart(honest.get(h), bundle, 1 << event)) {
                return event;
            }
        }
        return -1;
    }

    int stop(int k) {
        if (k < 1 || k > 6) {
            return -1;
        }
        List<Integer> sets = slySets(k);
        int best = -1;
        for (int w = 0; w < 1 << words.size(); w++) {
            List<Statement> told = new ArrayList<>();
            for (int i = 0; i < words.size(); i++) {
                if ((w >> i & 1) == 1) {
                    told.addAll(words.get(i));
                }
            }
            boolean good = best == -1 || Integer.bitCount(w) < Integer.bitCount(best);
            for (int i = 0; i < honest.size() && good; i++) {
                good = !barred(told, honest.get(i));
            }
            for (int i = 0; i < sets.size() && good; i++) {
                good = barred(told, chosen(sets.get(i)));
            }
            if (good) {
                best = w;
            }
        }
        return best;
    }

    // ---- promises 31 to 33

    private boolean hang(Deal a, Deal b, int n) {
        return Math.abs(a.signed - b.signed) <= n && (things(a) & things(b) & ~1) != 0
                && (families(a) & families(b)) != 0;
    }

    private TreeSet<Integer> heapOf(int n, int deal) {
        TreeSet<Integer> in = new TreeSet<>();
        List<Integer> open = new ArrayList<>(List.of(deal));
        while (!open.isEmpty()) {
            int d = open.remove(0);
            if (in.add(d)) {
                for (Deal other : deals) {
                    if (hang(deals.get(d), other, n)) {
                        open.add(other.number);
                    }
                }
            }
        }
        return in;
    }

    int heap(int n, int deal) {
        if (n < 0 || deal != -1 && !isDeal(deal)) {
            return -1;
        }
        if (deal != -1) {
            return heapOf(n, deal).first();
        }
        TreeSet<Integer> firsts = new TreeSet<>();
        for (Deal d : deals) {
            firsts.add(heapOf(n, d.number).first());
        }
        return firsts.size();
    }

    int group(int n, int deal) {
        if (n < 0 || !isDeal(deal) || heapOf(n, deal).size() > 6) {
            return -1;
        }
        List<Deal> b = new ArrayList<>();
        for (int d : heapOf(n, deal)) {
            b.add(deals.get(d));
        }
        return loan(b);
    }

    int count(int what) {
        if (what < 0 || what > 9) {
            return -1;
        }
        int leaves = 0;
        for (Deal d : bundle) {
            leaves += d.leaves.size();
        }
        return new int[] {deals.size(), laws.size(), law().size(), words.size(), bundle.size(), offered.size(),
            honest.size(), leaves, choices(bundle), tape.length}[what];
    }
}
