/** The document's Terms of BUNDLES: CODES, NETS, who LENDS at what PRICE, LOANS, who BEARS and what it COSTS. */
final class TermsOfBundles {
    private static final String OUT = "pass a b coin 10 at 5";
    private static final String BACK = "pass b a coin 12 at 9";
    private static final String BOTH = OUT + "," + BACK;
    private static final String[] THINGS = {"coin", "mule", "cloth", "house", "work", "grain"};
    private static final String[] EVENTS = {"dies", "rain", "war", "dear", "flood"};
    // 9 times itself six times: so much more of what is in it, up to 9,999 times 531,441.
    private static final String NINES = "times 9 {".repeat(6);
    private static final long MUCH = 9999L * 531441;

    private final Sentences s;

    TermsOfBundles(Sentences s) {
        this.s = s;
    }

    /** Goes on where TermsOfDeals ends. */
    void hold() {
        rowsOfDeals();
        looked();
        nets();
        lendsAtAll();
        lendsByDays();
        lendsOverAll();
        prices();
        loans();
        steps();
        bears();
        costs();
    }

    private static String choices(int many) {
        return Check.repeat("choice c {gift c d mule 0 at 0}", many, ",");
    }

    private static String events(int from, int past) {
        StringBuilder text = new StringBuilder();
        for (int event = from; event < past; event++) {
            text.append(event > from ? "," : "").append("if ").append(EVENTS[event]).append(" {gift c d mule 0 at 0}");
        }
        return text.toString();
    }

    private void rowsOfDeals() {
        s.of("A BUNDLE is a row of up to 6 DEALS, each once;");
        LoanNames x = s.told(OUT, OUT, OUT, OUT, OUT, OUT, OUT);
        for (int i = 0; i < 6; i++) {
            s.due("as the " + i + "th", x.add(6 - i), i + 1);
            s.due("again", x.add(6 - i), -1);
        }
        s.due("as the 7th", x.add(0), -1);
        s.due("how many", x.count(4), 6);
        LoanNames row = s.bundled("pass a b coin 1 at 9", "pass a b coin 2 at 1", "pass a b coin 3 at 5");
        for (int k = 0; k < 3; k++) {
            s.due("by their row, not by DAYS", row.passed(0, k, 4), k + 1);
        }
        s.of("CODES of it: its CHOICES one DEAL behind the other.");
        String three = "choice a {pass a b coin 0 at 0} or {pass a b coin 1 at 0},choice a {pass a b coin 0 at 0} or "
            + "{pass a b coin 2 at 0},choice a {pass a b coin 0 at 0} or {pass a b coin 4 at 0}";
        LoanNames y = s.bundled(three, OUT, "times 8 {" + three + "}");
        for (int choice = 0; choice < 64; choice++) {
            s.due("by the choices " + choice, y.net(choice << 5, 1, 0, 0), choice);
            s.due("by them and all EVENTS", y.net(choice << 5 | 31, 1, 0, 0), choice);
        }
        s.due("none behind the last", y.net(64 << 5, 1, 0, 0), Sentences.NO_SUM);
        // An EVENT is the same one to each DEAL, whatever CHOICES are told ahead of it.
        String each = "choice a {pass a b coin 1 at 0} or {pass a b coin 0 at 0,pass a b coin 0 at 0},if dies {pass a b coin 2 at 0},"
            + "if rain {pass a b coin 4 at 0},if war {pass a b coin 8 at 0},if dear {pass a b coin 16 at 0},if flood {pass a b coin 32 at 0}";
        for (int chosen = 0; chosen < 8; chosen++) {
            LoanNames z = s.bundled(each, each, each);
            for (int come = 0; come < 32; come++) {
                int code = chosen << 5 | come;
                int rows = 3 * Integer.bitCount(come) + 3 + Integer.bitCount(chosen);
                s.due("by " + code, z.net(code, 1, 0, 0), 3 * 2 * come + 3 - Integer.bitCount(chosen));
                s.due("rows by " + code, z.passed(code, -1, 0), rows);
                s.due("the last row by " + code, z.passed(code, rows - 1, 4), come > 0 ? 2 * Integer.highestOneBit(come)
                    : 1 - (chosen >> 2));
            }
        }
        LoanNames full = s.bundled(three, three, three, three, three, three);
        s.due("as many CHOICES as can be", full.count(8), 18);
        s.due("by the last alone", full.net(1 << 22, 1, 0, 0), 4);
        s.due("by all", full.net((1 << 23) - 1, 1, 0, 0), 42);
        s.due("none behind all", full.net(1 << 23, 1, 0, 0), Sentences.NO_SUM);
    }

    private void codesAre(int want, String... deals) {
        LoanNames x = s.bundled(deals);
        s.due("codes of " + String.join(" / ", deals), x.codes(), want);
        s.due("lends by them", x.lends(2, 3), want < 0 ? -1 : 0);
    }

    private void looked() {
        s.of("It's LOOKED at, if EVENTS named in it and CHOICES are 8 at most;");
        codesAre(256, events(0, 5), choices(3));
        codesAre(-1, events(0, 5), choices(3), choices(1));
        codesAre(256, events(0, 2), choices(3), choices(3));
        codesAre(-1, events(0, 3), choices(3), choices(3));
        codesAre(256, choices(3), choices(3), choices(2));
        codesAre(-1, choices(3), choices(3), choices(3));
        codesAre(-1, choices(3), choices(3), choices(3), choices(3), choices(3), choices(3));
        // An EVENT named in many DEALS is one EVENT.
        codesAre(256, events(0, 5), events(0, 5) + "," + choices(1), events(1, 4) + "," + choices(2));
        // Named is named, whatever passes by it.
        codesAre(-1, "times 0 {" + events(4, 5) + "}", events(0, 4), choices(3), choices(1));
        codesAre(-1, "if rain {if war {if rain {" + OUT + "}}}", choices(3), choices(3), choices(1));
        s.due("the empty one", new LoanNames().codes(), 1);
        s.of("ALL CODES: of the named EVENTS and CHOICES.");
        codesAre(1, OUT);
        codesAre(2, events(3, 4));
        codesAre(2, events(3, 4) + "," + events(3, 4));
        codesAre(32, events(0, 5));
        codesAre(2, choices(1), OUT);
        codesAre(64, choices(3), choices(3));
        s.due("EVENTS that aren't named make no CODES", s.bundled(BOTH, events(4, 5), choices(2)).lends(0, 1), 8);
        LoanNames x = s.bundled("if dies {pass c d mule 1 at 0}", "if flood {" + BOTH + "}", "choice a {times 1 {"
            + OUT + "}} or {times 2 {" + BACK + "}}");
        s.due("by flood and the second part, dies or not", x.lends(0, 1), 2);
        byWeights();
    }

    /** Each EVENT and CHOICE adds its own to what comes back, so that each CODE's sum is another one, 0 to 255. */
    private void byWeights() {
        String choice = "choice d {pass b a coin 0 at 9} or {pass b a coin ";
        String[] deals = {"pass a b coin 300 at 5," + choice + "1 at 9},if dies {pass b a coin 2 at 9}",
            choice + "4 at 9},if rain {pass b a coin 8 at 9}," + choice + "16 at 9}", "if war {pass b a coin 32 at 9},"
            + "if dear {pass b a coin 64 at 9},if flood {pass b a coin 128 at 9}"};
        for (int less : new int[] {-1, 0, 1, 126, 127, 128, 253, 254, 255}) {
            byWeights(less, deals[0], deals[1], deals[2]);
            byWeights(less, deals[2], deals[1], deals[0]);
            byWeights(less, deals[1], deals[2], deals[0]);
        }
    }

    private void byWeights(int less, String... deals) {
        LoanNames x = s.bundled(deals[0], deals[1], deals[2], "pass b a coin " + (300 - less) + " at 9");
        s.due("sums above " + less, x.lends(0, 1), 255 - less);
        s.due("the least price, upper", x.price(0, 1, 0), less < 255 ? 1 : -1);
        s.due("the least price, lower", x.price(0, 1, 1), less < 255 ? 1200 : -1);
        s.due("the greatest price", 1200 * x.price(0, 1, 2), less < 255 ? (255 - less) * x.price(0, 1, 3) : -1200);
        s.due("a LOAN", x.loan(), less < 0 ? 1 : -1);
        s.due("its STEP", x.step(), less < 0 ? 1 : -1);
        s.due("a LOAN as HONEST", x.innocent(x.honest(), 1), less < 0 ? 1 : -1);
    }

    private void nets() {
        s.of("NET of a FAMILY: what it gets of a THING less what it gives, on a DAY, or over all.");
        LoanNames x = s.bundled("sale a b mule 3 for 20 at 0 paid 399,pass c b coin 7 at 399,pass b c coin 1 at 0",
            "after 399 {gift b a mule 1 at 399}");
        s.due("coin over all", x.net(0, 1, 0, -1), 7 - 20 - 1);
        s.due("coin on the last DAY", x.net(0, 1, 0, 399), 7 - 20);
        s.due("coin on the first", x.net(0, 1, 0, 0), -1);
        s.due("coin on another", x.net(0, 1, 0, 398), 0);
        s.due("mules over all", x.net(0, 1, 1, -1), 2);
        s.due("mules on the first", x.net(0, 1, 1, 0), 3);
        s.due("mules as late as that", x.net(0, 1, 1, 798), -1);
        s.due("a THING that isn't there", x.net(0, 1, 2, -1), 0);
        s.due("a FAMILY that isn't there", x.net(0, 7, 0, -1), 0);
        x.family(2, 1);
        s.due("what passes within a FAMILY is none", x.net(0, 1, 0, -1), -20);
        x.family(0, 1);
        s.due("nor is anything, if all are one", x.net(0, 1, 0, 399), 0);
        LoanNames much = s.bundled(NINES + Check.repeat("pass a b coin 9999 at 0", 12, ",") + "}".repeat(6),
            NINES + Check.repeat("pass a b coin 9999 at 0", 12, ",") + "}".repeat(6));
        s.due("beyond 32 bits", much.net(0, 1, 0, 0), 24 * MUCH);
        s.due("far below 0", much.net(0, 0, 0, -1), -24 * MUCH);
    }

    /** By how many CODES a LENDS to b, and whether that makes a LOAN; then the same with a and b changed. */
    private void lends(String text, int want) {
        LoanNames x = s.well(text);
        s.due("lends by " + text, x.lends(0, 1), want);
        s.due("LOAN by " + text, x.innocent(x.honest(), 1) == 1, want == x.codes());
        String other = text.replaceAll("\\ba\\b", "_").replaceAll("\\bb\\b", "a").replace('_', 'b');
        LoanNames y = s.well(other);
        s.due("lends by " + other, y.lends(1, 0), want);
        s.due("LOAN by " + other, y.innocent(y.honest(), 1) == 10, want == y.codes());
    }

    private void lendsAtAll() {
        s.of("L LENDS to B (unlike FAMILIES) by a CODE:");
        LoanNames x = s.well(BOTH);
        s.due("unlike", x.lends(0, 1), 1);
        s.due("the other way round", x.lends(1, 0), 0);
        for (int l = 0; l < 8; l++) {
            for (int b = 0; b < 8; b++) {
                s.due("lends " + l + " " + b, x.lends(l, b), l == b ? -1 : l == 0 && b == 1 ? 1 : 0);
            }
        }
        x.family(1, 0);
        s.due("within a FAMILY", x.lends(0, 1), 0);
        s.due("within a FAMILY", x.lends(0, 0), -1);
        x.family(1, 7);
        s.due("to another FAMILY", x.lends(0, 7), 1);
        x.family(0, 7);
        x.family(1, 0);
        s.due("of another FAMILY", x.lends(7, 0), 1);
        lends("if rain {" + BOTH + "}", 1);
        lends("if rain {" + BOTH + "},if war {" + BOTH + "}", 3);
        s.of("no THING but coin has a NET over all for L or B;");
        for (int thing = 1; thing < 6; thing++) {
            String it = " " + THINGS[thing] + " 1 at ";
            lends(BOTH + ",gift a c" + it + "0", 0);
            lends(BOTH + ",gift c a" + it + "0", 0);
            lends(BOTH + ",gift b c" + it + "399", 0);
            lends(BOTH + ",gift c b" + it + "399", 0);
            lends(BOTH + ",gift a b" + it + "0", 0);
            lends(BOTH + ",gift c d" + it + "0", 1);
            lends(BOTH + ",gift a b" + it + "0,gift b a" + it + "399", 1);
            lends(BOTH + ",gift c a" + it + "9,gift a d" + it + "0", 1);
            lends(BOTH + ",times 2 {gift c a" + it + "9},gift a d" + it + "0", 0);
        }
        lends(BOTH + ",gift a c mule 1 at 0,gift c a cloth 1 at 0", 0);
        lends(BOTH + ",gift a c mule 0 at 0", 1);
        lends(BOTH + ",times 0 {gift a c mule 1 at 0}", 1);
        lends(BOTH + ",gift a c coin 1 at 9", 1);
        lends(BOTH + ",hire b a house 1 for 0 at 0 back 399", 1);
        // By each CODE for itself, whatever it was by the one ahead of it.
        lends(BOTH + ",if rain {gift a c mule 1 at 0}", 1);
        lends(BOTH + ",if rain {gift a b coin 0 at 0} else {gift a c mule 1 at 0}", 1);
        lends(BOTH + ",if rain {gift a c mule 1 at 0} else {gift c a mule 1 at 0}", 0);
        lends(BOTH + ",if rain {gift a c mule 1 at 0},if war {gift c a mule 1 at 0}", 2);
        String hires = Check.repeat("hire a b coin 1 for 1 at 0 back 1", 12, ",");
        LoanNames full = s.bundled(hires, hires, hires, hires, hires, hires);
        s.due("as many rows as can be", full.lends(0, 1), 1);
        s.due("their price", full.price(0, 1, 1), 1);
        s.due("their NET", full.net(0, 0, 0, 1), 144);
        s.due("parts from themselves", full.parts(full.honest()), -1);
        s.due("LOAN as HONEST", full.innocent(0, 1), 1);
        String others = Check.repeat("hire c d house 1 for 1 at 0 back 1", 11, ",") + ",gift ";
        LoanNames last = s.bundled(hires, hires, hires, hires, hires, others + "c d house 1 at 9");
        s.due("all but the last", last.lends(0, 1), 1);
        last = s.bundled(hires, hires, hires, hires, hires, others + "a d house 1 at 9");
        s.due("the last row counts", last.lends(0, 1), 0);
    }

    private void lendsByDays() {
        s.of("on the first DAY on which L's NET of coin isn't 0 it's below 0 and B's is above 0;");
        lends(BACK + "," + OUT, 1);
        lends("pass a b coin 10 at 0,pass b a coin 12 at 0", 0);
        lends("pass a b coin 10 at 0,pass b a coin 12 at 1", 1);
        lends("pass a b coin 10 at 398,pass b a coin 12 at 399", 1);
        lends("pass b a coin 1 at 4," + BOTH, 0);
        lends("pass b a coin 0 at 4," + BOTH, 1);
        lends("pass c a coin 1 at 4," + BOTH, 0);
        lends("pass c a coin 1 at 4,pass a c coin 1 at 4," + BOTH, 1);
        lends("pass c a coin 9 at 5," + BOTH, 1);
        lends("pass c a coin 10 at 5," + BOTH, 0);
        lends("pass c a coin 11 at 5," + BOTH, 0);
        lends("pass a c coin 1 at 4," + BOTH, 0);
        lends("pass a c coin 1 at 5," + BOTH, 1);
        lends("pass b c coin 9 at 5," + BOTH, 1);
        lends("pass b c coin 10 at 5," + BOTH, 0);
        lends("pass b c coin 11 at 5," + BOTH, 0);
        lends("pass b c coin 1 at 4," + BOTH, 1);
        lends("pass c a coin 1 at 0,pass c b coin 1 at 0,pass b c coin 2 at 1", 0);
        lends("pass c b coin 1 at 5,pass a d coin 1 at 5,pass d a coin 3 at 6,pass b d coin 3 at 6", 1);
        s.of("on no DAY behind one with L's NET above 0 it's below 0;");
        lends(OUT + ",pass a b coin 1 at 7," + BACK, 1);
        lends(OUT + ",pass b a coin 1 at 6,pass a b coin 1 at 7," + BACK, 0);
        lends(OUT + ",pass b a coin 1 at 7,pass a b coin 1 at 7," + BACK, 1);
        lends(OUT + ",pass c a coin 1 at 6,pass a c coin 1 at 399," + BACK, 0);
        lends(OUT + ",pass b a coin 6 at 6,pass b a coin 6 at 7", 1);
        lends(BOTH + ",pass a c coin 1 at 9", 1);
        lends(BOTH + ",pass a c coin 1 at 10", 0);
        lends(BOTH + ",pass a c coin 1 at 10,pass c a coin 1 at 10", 1);
        lends(BOTH + ",pass a c coin 0 at 10", 1);
        // B's DAYS may go up and down.
        lends(BOTH + ",pass c b coin 1 at 10,pass b c coin 1 at 11,pass c b coin 1 at 12", 1);
    }

    private void lendsOverAll() {
        s.of("L's over all is above 0, B's below 0.");
        lends(OUT + ",pass b a coin 9 at 9", 0);
        lends(OUT + ",pass b a coin 10 at 9", 0);
        lends(OUT + ",pass b a coin 11 at 9", 1);
        lends(OUT, 0);
        lends(BOTH + ",pass a c coin 1 at 9", 1);
        lends(BOTH + ",pass a c coin 2 at 9", 0);
        lends(BOTH + ",pass a c coin 3 at 9", 0);
        lends(BOTH + ",pass c b coin 1 at 9", 1);
        lends(BOTH + ",pass c b coin 2 at 9", 0);
        lends(BOTH + ",pass c b coin 3 at 399", 0);
        lends(BOTH + ",if rain {pass c b coin 2 at 9}", 1);
        lends(BOTH + ",if rain {pass c b coin 0 at 9} else {pass c b coin 2 at 9}", 1);
        lends(BOTH + ",if rain {pass a c coin 2 at 9}", 1);
        lends(BOTH + ",if rain {pass a c coin 0 at 9} else {pass a c coin 2 at 9}", 1);
        lends(OUT + ",pass c a coin 12 at 9", 0);
        lends(OUT + ",pass c a coin 12 at 9,pass b d coin 10 at 9", 0);
        lends(OUT + ",pass c a coin 12 at 9,pass b d coin 11 at 9", 1);
        // Sums beyond 32 bits keep their sign.
        lends(NINES + "pass a b coin 1 at 0,pass b a coin 9999 at 1}}}}}}", 1);
        lends(NINES + "pass a b coin 9999 at 0,pass b a coin 9998 at 1}}}}}}", 0);
    }

    private void price(String text, long... want) {
        LoanNames x = s.well(text);
        for (int what = 0; what < 4; what++) {
            s.due("price of " + text + ", what " + what, x.price(0, 1, what), want[what % want.length]);
        }
    }

    private void prices() {
        s.of("PRICE then: L's NET over all by the sum, for each DAY from that first one on, of what is out as it ends");
        price("pass a b coin 1 at 0,pass b a coin 2 at 1", 1, 1);
        price("pass a b coin 1 at 0,pass b a coin 2 at 399", 1, 399);
        price("pass a b coin 1 at 5,pass b a coin 4 at 7", 3, 2);
        price("pass a b coin 1 at 5,pass a b coin 2 at 6,pass b a coin 4 at 7", 1, 1 + 3);
        // As the DAY ends, not as it begins.
        price("pass a b coin 3 at 5,pass b a coin 1 at 5,pass b a coin 3 at 6", 1, 2);
        price("pass a b coin 10 at 0,pass a b coin 5 at 1,pass b a coin 12 at 3,pass b a coin 6 at 7", 3, 10 + 2 * 15 + 4 * 3);
        price("pass a c coin 3 at 5," + BOTH + ",pass c a coin 4 at 10", 3, 4 * 13 + 1);
        price("after 399{".repeat(6) + "pass a b coin 1 at 0" + "}".repeat(6) + "," + "after 399{".repeat(6)
            + "pass b a coin 2 at 399" + "}".repeat(6), 1, 399);
        price("pass a b coin 1 at 0," + "after 399{".repeat(6) + "pass b a coin 2 at 399" + "}".repeat(6), 1, 7 * 399);
        s.of("(L's NETS till then together, with the other sign, if below 0),");
        // What has come beyond what went out counts for nothing, till all DAYS end.
        price("pass a b coin 2 at 0,pass b a coin 2 at 3,pass b a coin 5 at 9", 5, 6);
        price("pass a b coin 2 at 0,pass b a coin 3 at 3,pass b a coin 4 at 9", 5, 6);
        price("pass a b coin 2 at 0,pass b a coin 1 at 3,pass b a coin 4 at 9", 1, 4);
        s.of("in lowest terms.");
        price(BOTH, 1, 20);
        price("pass a b coin 4 at 0,pass b a coin 10 at 1", 3, 2);
        price("pass a b coin 4 at 0,pass b a coin 8 at 1", 1, 1);
        price("pass a b coin 7 at 0,pass b a coin 10 at 1", 3, 7);
        price("pass a b coin 1 at 0,pass b a coin 9999 at 1", 9998, 1);
        price(NINES + "pass a b coin 9999 at 0,pass b a coin 9999 at 399,pass b a coin 3 at 399" + "}".repeat(6), 1, 3333 * 399);
        // Beyond 32 bits above and below, 9,998 times 9 to the 6th and one by 9,999 times 9 to the 6th and 399 DAYS.
        String much = NINES + "pass a b coin 9999 at 0,pass b a coin 9999 at 399,pass b a coin 9998 at 399" + "}".repeat(6);
        long upper = MUCH - 531441 + 1;
        long lower = MUCH * 399;
        long divisor = java.math.BigInteger.valueOf(upper).gcd(java.math.BigInteger.valueOf(lower)).longValue();
        price(much + ",pass b a coin 1 at 399", upper / divisor, lower / divisor);
    }

    private void loan(int want, String... deals) {
        LoanNames x = s.bundled(deals);
        s.due("loan of " + String.join(" / ", deals), x.loan(), want);
        s.due("whether it has a step", x.step() > 0, want >= 0);
        s.due("as HONEST", x.innocent(x.honest(), 1), want);
    }

    private void loans() {
        s.of("A LOAN: L LENDS to B by ALL CODES (the least L, then B).");
        loan(1, BOTH);
        loan(1, OUT, BACK);
        loan(10, "pass b a coin 1 at 0,pass a b coin 2 at 1");
        loan(76, "pass h g coin 1 at 0,pass g h coin 2 at 1");
        loan(-1, OUT, "if rain {" + BACK + "}");
        loan(1, OUT, "if rain {" + BACK + "} else {pass b a coin 11 at 399}");
        loan(-1, OUT, "choice b {" + BACK + "} or {pass b a coin 10 at 399}");
        loan(1, OUT, "choice b {" + BACK + "} or {pass b a coin 11 at 399}");
        loan(-1, BOTH, "if dies {if rain {if war {if dear {if flood {pass a b coin 2 at 9}}}}}");
        loan(1, BOTH, "if dies {if rain {if war {if dear {if flood {pass a b coin 1 at 9}}}}}");
        loan(-1, BOTH, "if rain {pass a b coin 0 at 9} else {if war {pass a b coin 2 at 9}}");
        loan(-1, BOTH, "if rain {if war {pass a b coin 0 at 9} else {pass a b coin 2 at 9}}");
        loan(1, BOTH, "if rain {if war {pass a b coin 0 at 9} else {pass a b coin 1 at 9}}");
        loan(-1, "if rain {" + BOTH + "} else {pass c b coin 10 at 5,pass b c coin 12 at 9}");
        loan(-1, "if rain {" + BOTH + "} else {pass a c coin 10 at 5,pass c a coin 12 at 9}");
        // By all eight FAMILIES.
        String eight = "pass c d coin 1 at 0,pass e f coin 1 at 1,pass g h coin 1 at 2";
        loan(1, BOTH + "," + eight);
        loan(-1, OUT + "," + eight);
        loan(21, "pass d b coin 1 at 0,pass b d coin 2 at 1,pass c b coin 1 at 0,pass b c coin 2 at 1");
        loan(20, "pass c b coin 1 at 0,pass b c coin 2 at 1,pass c a coin 1 at 0,pass a c coin 2 at 1");
        loan(20, "pass d a coin 1 at 0,pass a d coin 2 at 1,pass c a coin 1 at 0,pass a c coin 2 at 1");
        // The least pair that LENDS by all, though others do by some.
        loan(32, "if rain {" + BOTH + "},pass d c coin 1 at 0,pass c d coin 2 at 1");
        LoanNames x = s.bundled(events(0, 5), choices(3), BOTH);
        s.due("by as many CODES as can be", x.lends(0, 1), 256);
        s.due("a LOAN by them", x.loan(), 1);
        x.add(Check.deal(x, choices(1)));
        s.due("not LOOKED at", x.loan(), -1);
        LoanNames y = s.told(OUT, BACK, "pass d c coin 1 at 0,pass c d coin 2 at 1", "pass a b coin 2 at 9");
        int[] loans = {-1, 1, 1, -1};
        for (int deal : new int[] {0, 1, 2, 3}) {
            y.add(deal);
            s.due("with one more", y.loan(), deal < 3 ? loans[deal] : 32);
            s.due("as HONEST", y.innocent(y.honest(), 1), deal < 3 ? loans[deal] : 32);
        }
        y.clear();
        s.due("none of it", y.loan(), -1);
        for (int honest : new int[] {1, 3, 0, 3, 1, 0}) {
            s.due("each for itself", y.innocent(honest, 1), honest == 0 ? -1 : honest == 1 ? 1 : 32);
        }
    }

    private void steps() {
        s.of("STEP: the least of L's NETS over all by ALL CODES.");
        s.due("by one", s.well(BOTH).step(), 2);
        s.due("the first", s.bundled(BOTH, "if rain {pass b a coin 1 at 9}").step(), 2);
        s.due("the last", s.bundled(BOTH, "if rain {pass b a coin 3 at 9} else {pass b a coin 4 at 9}").step(), 5);
        s.due("by a CHOICE", s.bundled(BOTH, "choice a {pass b a coin 9 at 9} or {times 0 {" + OUT + "}}").step(), 2);
        s.due("one in the middle", s.bundled(BOTH, "if rain {if war {pass b a coin 5 at 9}} else {if war {pass a c coin 1 at 9} "
            + "else {pass b a coin 3 at 9}}").step(), 1);
        s.due("L's, not another's", s.bundled(BOTH, "pass c b coin 1 at 0,pass b c coin 2 at 1").step(), 2);
        s.due("beyond 32 bits", s.well(NINES + "pass a b coin 1 at 0,pass b a coin 9999 at 1}}}}}}").step(), MUCH - 531441);
    }

    private void bears() {
        s.of("BEARS: a FAMILY's NET of coin over all by the CODE of one EVENT alone less that by 0.");
        for (int event = 0; event < 5; event++) {
            LoanNames x = s.bundled(OUT, "if " + EVENTS[event] + " {pass a b coin 3 at 0} else {pass a b coin 7 at 0}");
            for (int other = 0; other < 5; other++) {
                s.due("a of " + EVENTS[other], x.bears(0, other), other == event ? 4 : 0);
                s.due("b of " + EVENTS[other], x.bears(1, other), other == event ? -4 : 0);
                s.due("c of " + EVENTS[other], x.bears(2, other), 0);
            }
        }
        LoanNames two = s.well("if rain {if war {pass a b coin 9 at 0} else {pass a b coin 2 at 0}}");
        s.due("rain alone", two.bears(1, 1), 2);
        s.due("war alone", two.bears(1, 2), 0);
        LoanNames choice = s.well("choice a {if rain {pass a b coin 1 at 0}} or {if rain {pass a b coin 8 at 0}}");
        s.due("the first part is chosen", choice.bears(1, 1), 1);
        s.due("coin alone", s.well("if rain {pass a b mule 1 at 0}").bears(1, 1), 0);
        two.family(0, 1);
        s.due("within a FAMILY", two.bears(1, 1), 0);
        LoanNames much = s.well("if dies {" + "times 9 {".repeat(5) + "pass a b coin 9999 at 0" + "}".repeat(6));
        s.due("the most", much.bears(0, 0), -9999L * 59049);
        s.due("by no BUNDLE", new LoanNames().bears(0, 0), 0);
    }

    private void costs() {
        s.of("COST of L and B by CODE 0: what all other FAMILIES together have as NETS of coin over all above 0;");
        LoanNames x = s.bundled("pass a c coin 3 at 0,pass b d coin 5 at 399,pass e f coin 4 at 1,pass g d coin 1 at 2",
            "if rain {pass a h coin 99 at 0}", "choice a {pass b h coin 2 at 0} or {pass b h coin 50 at 0}");
        s.due("of a and b", x.cost(0, 1, 0), 3 + 6 + 4 + 2);
        s.due("of b and a", x.cost(1, 0, 0), 3 + 6 + 4 + 2);
        s.due("of c and d", x.cost(2, 3, 0), 4 + 2);
        s.due("nobody has it", s.well(BOTH).cost(0, 1, 0), 0);
        LoanNames events = s.well("if dies {pass a c coin 5 at 0} else {pass a c coin 1 at 0},if flood {pass a d coin 3 at 0}");
        s.due("by CODE 0 alone", events.cost(0, 1, 0), 1);
        s.due("who has it", events.cost(0, 1, 1), 2);
        s.due("L has it", s.well(BOTH).cost(0, 2, 0), 0);
        s.due("another has it", s.well(BOTH).cost(1, 2, 0), 2);
        s.due("coin alone", s.well("pass a c mule 9 at 0").cost(0, 1, 0), 0);
        s.due("0 is not above 0", s.well("pass a c coin 9 at 0,pass c d coin 9 at 9,pass d b coin 9 at 10").cost(0, 1, 0), 0);
        String all = NINES + Check.repeat("pass a c coin 9999 at 0", 6, ",") + "," + Check.repeat("pass b d coin 9999 at 0", 6, ",")
            + "}".repeat(6);
        s.due("beyond 32 bits", s.well(all).cost(0, 1, 0), 12 * MUCH);
        s.of("who has the most of that (the least FAMILY).");
        s.due("who has the most", x.cost(0, 1, 1), 3);
        s.due("of the others", x.cost(3, 1, 1), 5);
        s.due("the least of two", s.well(all).cost(0, 1, 1), 2);
        s.due("the least of three", s.well("pass a h coin 2 at 0,pass a g coin 2 at 0,pass a e coin 2 at 0,pass a c coin 1 at 0")
            .cost(0, 1, 1), 4);
        s.due("of all that is nothing", s.well(BOTH).cost(0, 1, 1), -1);
        x.family(7, 2);
        x.family(5, 2);
        s.due("a FAMILY together", x.cost(0, 1, 1), 2);
        x.family(3, 2);
        s.due("with all of it", x.cost(0, 1, 0), 15 + 0);
    }
}
