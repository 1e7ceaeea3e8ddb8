/** Promises 12 to 22: BUNDLES, what passes, NETS, who LENDS, PRICES, LOANS, who BEARS and what it COSTS. */
public final class BundlesTest {
    private static final Check CHECK = new Check();
    private static final long NO_SUM = -1_000_000_000_000L;
    private static final String OUT = "pass a b coin 10 at 5";
    private static final String BACK = "pass b a coin 12 at 9";

    public static void main(String[] args) {
        addAndClear();
        passed();
        passedByChoices();
        nets();
        codes();
        lends();
        lendsByDays();
        prices();
        bigPrices();
        loans();
        steps();
        bears();
        costs();
        CHECK.end();
    }

    private static void due(String what, long got, long want) {
        CHECK.due(what, got, want);
    }

    private static void addAndClear() {
        LoanNames x = new LoanNames();
        for (int i = 0; i < 7; i++) {
            Check.deal(x, "choice a {gift a b mule 1 at 1," + OUT + "}");
        }
        due("add 7", x.add(7), -1);
        due("add -1", x.add(-1), -1);
        due("clear of none", x.clear(), 0);
        for (int i = 0; i < 6; i++) {
            due("add", x.add(5 - i), i + 1);
        }
        due("add what is in", x.add(0), -1);
        due("add the 7th", x.add(6), -1);
        due("how many", x.count(4), 6);
        due("LEAVES", x.count(7), 12);
        due("CHOICES", x.count(8), 6);
        due("clear", x.clear(), 6);
        due("how many then", x.count(4), 0);
        due("LEAVES then", x.count(7), 0);
        due("add then", x.add(6), 1);
    }

    private static void rowIs(LoanNames x, int code, int k, long... want) {
        for (int what = 0; what < 5; what++) {
            due("row " + k + " by " + code + " what " + what, x.passed(code, k, what), want[what]);
        }
    }

    private static void passed() {
        LoanNames x = Check.bundled("after 10 {times 3 {hire a b mule 2 for 4 at 5 back 6}},times 0 {" + OUT + "}",
                "if rain {sale c d grain 7 for 8 at 0 paid 9} else {gift d c coin 0 at 1}");
        due("rows by 0", x.passed(0, -1, 0), 4);
        rowIs(x, 0, 0, 15, 0, 1, 1, 6);
        rowIs(x, 0, 1, 16, 1, 0, 1, 6);
        rowIs(x, 0, 2, 16, 1, 0, 0, 12);
        rowIs(x, 0, 3, 1, 3, 2, 0, 0);
        due("rows by rain", x.passed(2, -1, 0), 5);
        rowIs(x, 2, 3, 0, 2, 3, 5, 7);
        rowIs(x, 2, 4, 9, 3, 2, 0, 8);
        due("row 4 by 0", x.passed(0, 4, 0), -1);
        due("row -2", x.passed(0, -2, 0), -1);
        due("what 5", x.passed(0, 0, 5), -1);
        due("what -1", x.passed(0, 0, -1), -1);
        due("rows, what 1", x.passed(0, -1, 1), -1);
        due("code 32", x.passed(32, -1, 0), -1);
        due("code -1", x.passed(-1, -1, 0), -1);
        LoanNames big = Check.bundled(
                "times 9 {times 9 {times 9 {times 9 {times 9 {times 9 {pass a b coin 9999 at 399}}}}}}",
                "after 399{after 399{after 399{after 399{after 399{after 399{pass a b coin 1 at 399}}}}}}");
        due("9,999 times 9 to the 6th", big.passed(0, 0, 4), 9999L * 531441);
        due("seven times 399", big.passed(0, 1, 0), 7 * 399);
        due("net on that DAY", big.net(0, 1, 0, 7 * 399), 1);
    }

    private static void passedByChoices() {
        LoanNames x = Check.bundled("choice a {pass a b coin 1 at 0} or {pass a b coin 2 at 0}",
                "gift a b mule 1 at 0",
                "choice b {pass a b coin 3 at 0},choice c {choice d {times 1 {pass a b coin 4 at 0}} or {pass a b coin 5 at 0}}");
        due("CHOICES", x.count(8), 3 + 1);
        due("by 0", x.passed(0, -1, 0), 4);
        rowIs(x, 31, 3, 0, 0, 1, 0, 4);
        rowIs(x, 32, 0, 0, 0, 1, 0, 2);
        due("the second's first", x.passed(64, -1, 0), 3);
        rowIs(x, 64, 2, 0, 0, 1, 0, 4);
        due("the outer one of two", x.passed(128, -1, 0), 3);
        rowIs(x, 256, 3, 0, 0, 1, 0, 5);
        due("all", x.passed(511, -1, 0), 2);
        due("no such", x.passed(512, -1, 0), -1);
    }

    private static void nets() {
        LoanNames x = Check.bundled("sale a b mule 3 for 20 at 0 paid 4,pass c b coin 7 at 4", "if war {gift b a mule 1 at 4}");
        due("coin over all", x.net(0, 1, 0, -1), -13);
        due("coin on the DAY", x.net(0, 1, 0, 4), -13);
        due("coin on another DAY", x.net(0, 1, 0, 0), 0);
        due("mules", x.net(0, 1, 1, -1), 3);
        due("mules by war", x.net(4, 1, 1, -1), 2);
        due("DAY 9,999", x.net(0, 1, 1, 9999), 0);
        due("DAY 10,000", x.net(0, 1, 1, 10000), NO_SUM);
        due("DAY -2", x.net(0, 1, 1, -2), NO_SUM);
        due("FAMILY 8", x.net(0, 8, 1, 0), NO_SUM);
        due("FAMILY -1", x.net(0, -1, 1, 0), NO_SUM);
        due("THING 6", x.net(0, 0, 6, 0), NO_SUM);
        due("THING -1", x.net(0, 0, -1, 0), NO_SUM);
        due("CODE 32", x.net(32, 0, 0, 0), NO_SUM);
        due("CODE -1", x.net(-1, 0, 0, 0), NO_SUM);
        x.family(2, 0);
        due("together", x.net(0, 0, 0, -1), 13);
    }

    private static void codes() {
        String c3 = "choice a {" + OUT + "},choice a {" + OUT + "},choice a {" + OUT + "}";
        LoanNames x = Check.bundled("if war {" + OUT + "},if rain {" + OUT + "},if war {" + BACK + "}");
        due("two EVENTS", x.codes(), 4);
        x.add(Check.deal(x, c3));
        due("and three CHOICES", x.codes(), 32);
        x.add(Check.deal(x, c3));
        due("eight in all", x.codes(), 256);
        due("looked", x.lends(0, 1) >= 0 ? 1 : 0, 1);
        x.add(Check.deal(x, "if dies {" + OUT + "}"));
        due("nine in all", x.codes(), -1);
        due("loan", x.loan(), -1);
        due("step", x.step(), -1);
        due("lends", x.lends(0, 1), -1);
        due("price", x.price(0, 1, 0), -1);
        due("passed all the same", x.passed(0, -1, 0), 6);
        due("net all the same", x.net(0, 0, 0, -1), -60);
        due("bears all the same", x.bears(0, 0), -10);
    }

    private static void lends() {
        LoanNames x = Check.bundled(OUT, BACK);
        due("lends", x.lends(0, 1), 1);
        due("the other way round", x.lends(1, 0), 0);
        for (int[] bad : new int[][] {{0, 0}, {-1, 1}, {8, 1}, {0, 8}, {0, -1}}) {
            due("lends " + bad[0] + " " + bad[1], x.lends(bad[0], bad[1]), -1);
            due("price " + bad[0] + " " + bad[1], x.price(bad[0], bad[1], 0), -1);
        }
        x.add(Check.deal(x, "gift a c cloth 1 at 0"));
        due("with cloth of L gone", x.lends(0, 1), 0);
        x.family(2, 0);
        due("with cloth that stays", x.lends(0, 1), 1);
        x.add(Check.deal(x, "gift d b cloth 1 at 0"));
        due("with cloth of B come", x.lends(0, 1), 0);
        x.add(Check.deal(x, "gift b d cloth 1 at 300"));
        due("with cloth of B gone back", x.lends(0, 1), 1);
        x.add(Check.deal(x, "gift e f cloth 1 at 300"));
        due("with cloth of others", x.lends(0, 1), 1);
        LoanNames even = Check.bundled(OUT, "pass b a coin 10 at 9");
        due("as much back", even.lends(0, 1), 0);
        LoanNames won = Check.bundled(OUT, "pass c a coin 12 at 9");
        due("B keeps it", won.lends(0, 1), 0);
        due("c has not had it", won.lends(0, 2), 0);
    }

    private static void lendsBy(String text, int want) {
        due("lends by " + text, Check.bundled(text).lends(0, 1), want);
    }

    private static void lendsByDays() {
        lendsBy(BACK + "," + OUT, 1);
        lendsBy("pass b a coin 1 at 4," + OUT + "," + BACK, 0);
        lendsBy("pass c a coin 1 at 4," + OUT + "," + BACK, 0);
        lendsBy("pass b a coin 0 at 4," + OUT + "," + BACK, 1);
        lendsBy("pass a c coin 1 at 4," + OUT + "," + BACK, 0);
        lendsBy("pass a c coin 1 at 5," + OUT + "," + BACK, 1);
        lendsBy("pass a c coin 1 at 5,pass c a coin 1 at 5," + OUT + "," + BACK, 1);
        lendsBy("pass b c coin 1 at 4," + OUT + "," + BACK, 1);
        lendsBy("pass b c coin 10 at 5," + OUT + "," + BACK, 0);
        lendsBy("pass b c coin 9 at 5," + OUT + "," + BACK, 1);
        lendsBy(OUT + ",pass b a coin 1 at 6,pass a b coin 1 at 7," + BACK, 0);
        lendsBy(OUT + ",pass a b coin 1 at 7," + BACK, 1);
        lendsBy(OUT + ",pass b a coin 6 at 6,pass b a coin 6 at 7", 1);
        lendsBy(OUT + "," + BACK + ",pass a c coin 1 at 10", 0);
        lendsBy(OUT + "," + BACK + ",pass a c coin 1 at 9", 1);
        lendsBy("if rain {" + OUT + "," + BACK + "} else {" + BACK + "}", 1);
        lendsBy("choice c {" + OUT + "," + BACK + "} or {" + OUT + ",pass b a coin 11 at 399}", 2);
        LoanNames x = Check.bundled(OUT + ",choice b {pass b a coin 6 at 9} or {pass b a coin 5 at 9}",
                "choice b {pass b a coin 6 at 9} or {pass b a coin 5 at 9}",
                "choice b {pass b a coin 1 at 9}", "choice c {gift c d coin 1 at 0}",
                "choice d {gift d e coin 1 at 0} or {pass b a coin 1 at 9}");
        due("CHOICES of five DEALS, each by itself", x.lends(0, 1), 30);
        due("no LOAN by just two of them", x.loan(), -1);
        x.add(Check.deal(x, "if rain {pass b a coin 1 at 9} else {pass b a coin 2 at 9}"));
        due("a LOAN by all", x.loan(), 1);
        due("its step", x.step(), 1);
    }

    private static void priceIs(LoanNames x, long... want) {
        for (int what = 0; what < 4; what++) {
            due("price, what " + what, x.price(0, 1, what), want[what]);
        }
    }

    private static void prices() {
        LoanNames x = Check.bundled(OUT, BACK);
        priceIs(x, 1, 20, 1, 20);
        due("what 4", x.price(0, 1, 4), -1);
        due("what -1", x.price(0, 1, -1), -1);
        due("of none", x.price(1, 0, 0), -1);
        // Out: 10 for 1 day, 15 for 2 days, 3 for 4 days; 3 more come back than went.
        priceIs(Check.bundled("pass a b coin 10 at 0,pass a b coin 5 at 1,pass b a coin 12 at 3,pass b a coin 6 at 7"),
                3, 52, 3, 52);
        // What comes in beyond what is out counts for nothing.
        priceIs(Check.bundled("pass a b coin 2 at 0,pass b a coin 5 at 3,pass b a coin 5 at 9"), 4, 3, 4, 3);
        // By none that LENDS but two of three.
        priceIs(Check.bundled("if rain {" + OUT + "," + BACK + "},if war {" + OUT + ",pass b a coin 12 at 6}"),
                1, 20, 1, 5);
        // 1 by 2, 2 by 5, 1 by 2, 3 by 5, in any order.
        String[] shares = {"pass a b coin 2 at 0,pass b a coin 3 at 1", "pass a b coin 5 at 0,pass b a coin 7 at 1",
            "pass a b coin 4 at 0,pass b a coin 6 at 1", "pass a b coin 5 at 0,pass b a coin 8 at 1"};
        for (int turn = 0; turn < 4; turn++) {
            priceIs(Check.bundled("if rain {if war {" + shares[turn] + "} else {" + shares[(turn + 1) % 4]
                    + "}} else {if war {" + shares[(turn + 2) % 4] + "} else {" + shares[(turn + 3) % 4] + "}}"),
                    2, 5, 3, 5);
        }
        priceIs(Check.bundled("if rain {" + shares[0] + "} else {" + shares[1] + "}"), 2, 5, 1, 2);
        priceIs(Check.bundled("if rain {" + shares[1] + "} else {" + shares[0] + "}"), 2, 5, 1, 2);
        priceIs(Check.bundled("if rain {" + shares[0] + "} else {" + shares[2] + "}"), 1, 2, 1, 2);
        LoanNames y = Check.bundled(OUT, "choice b {" + BACK + "} or {times 2 {" + BACK + "}}");
        priceIs(y, 1, 20, 7, 20);
        y.clear();
        due("when the BUNDLE is empty", y.price(0, 1, 0), -1);
        y.add(0);
        y.add(1);
        y.family(1, 0);
        due("within a FAMILY", y.price(0, 1, 0), -1);
        y.family(1, 5);
        due("of another FAMILY", y.price(0, 5, 1), 20);
    }

    /** Prices so near to each other, and of numbers so big, that their products are beyond a long. */
    private static void bigPrices() {
        String nine = "times 9 {times 9 {times 9 {times 9 {times 9 {";
        String end = "}}}}}";
        LoanNames x = Check.bundled(nine + "pass a b coin 9999 at 0,pass b a coin 9999 at 399,pass b a coin 9998 at 399" + end,
                "choice b {pass b a coin 1 at 399} or {pass b a coin 2 at 399}",
                "choice b {pass a b coin 1 at 0} or {pass a b coin 1 at 1}");
        long nines = 59049;
        long out = 9999 * nines * 399;
        long[][] all = {{9998 * nines, out + 399}, {9998 * nines + 1, out + 399}, {9998 * nines, out + 398},
            {9998 * nines + 1, out + 398}};
        due("lends by all", x.lends(0, 1), 4);
        long least = gcd(all[0][0], all[0][1]);
        long most = gcd(all[3][0], all[3][1]);
        priceIs(x, all[0][0] / least, all[0][1] / least, all[3][0] / most, all[3][1] / most);
    }

    private static long gcd(long a, long b) {
        return b == 0 ? a : gcd(b, a % b);
    }

    private static void loans() {
        due("a loan", Check.bundled(OUT, BACK).loan(), 1);
        due("by h to g", Check.bundled("pass h g coin 1 at 0,pass g h coin 2 at 1").loan(), 76);
        due("no loan by all CODES", Check.bundled(OUT, "if rain {" + BACK + "}").loan(), -1);
        due("a loan by all CODES", Check.bundled(OUT, BACK, "if rain {pass b a coin 1 at 9}").loan(), 1);
        due("a loan by no CHOICE but one", Check.bundled(OUT, "choice b {" + BACK + "} or {pass b a coin 10 at 9}").loan(), -1);
        String two = "pass c b coin 1 at 0,pass b c coin 2 at 1,pass d b coin 1 at 0,pass b d coin 2 at 1";
        due("the least L", Check.bundled(two).loan(), 21);
        String both = "pass c b coin 2 at 0,pass c a coin 2 at 0,pass b c coin 3 at 1,pass a c coin 3 at 1";
        due("the least B", Check.bundled(both).loan(), 20);
        LoanNames x = Check.bundled(OUT, BACK);
        x.family(1, 0);
        due("within a FAMILY", x.loan(), -1);
        // Another lends by each of the CODES.
        due("one by each", Check.bundled("if rain {" + OUT + "," + BACK + "} else {pass c b coin 1 at 1,pass b c coin 2 at 2}").loan(),
                -1);
    }

    private static void steps() {
        due("step", Check.bundled(OUT, BACK).step(), 2);
        due("the least", Check.bundled(OUT, BACK, "if rain {pass b a coin 5 at 9} else {pass b a coin 3 at 9}").step(), 5);
        due("no loan", Check.bundled(BACK).step(), -1);
    }

    private static void bears() {
        LoanNames x = Check.bundled(OUT, "if rain {if war {pass a b coin 1 at 0} else {pass a b coin 3 at 0}} else {pass b a coin 4 at 0}",
                "choice a {if war {pass c a coin 8 at 0}} or {if rain {pass c a coin 99 at 0}}");
        due("a of rain", x.bears(0, 1), -7);
        due("b of rain", x.bears(1, 1), 7);
        due("a of war", x.bears(0, 2), 8);
        due("c of war", x.bears(2, 2), -8);
        due("c of rain", x.bears(2, 1), 0);
        due("FAMILY 8", x.bears(8, 0), NO_SUM);
        due("FAMILY -1", x.bears(-1, 0), NO_SUM);
        due("EVENT 5", x.bears(0, 5), NO_SUM);
        due("EVENT -1", x.bears(0, -1), NO_SUM);
    }

    private static void costs() {
        LoanNames x = Check.bundled("pass a c coin 3 at 0,pass a d coin 5 at 0,pass b e coin 5 at 1,pass f a coin 9 at 0",
                "if rain {pass a h coin 99 at 0}", "choice a {pass b g coin 1 at 0} or {pass b g coin 50 at 0}");
        due("cost", x.cost(0, 1, 0), 3 + 5 + 5 + 1);
        due("who has the most", x.cost(0, 1, 1), 3);
        due("of others", x.cost(3, 4, 0), 3 + 1 + (9 - 8));
        due("who has the most", x.cost(3, 4, 1), 2);
        due("what 2", x.cost(0, 1, 2), -1);
        due("what -1", x.cost(0, 1, -1), -1);
        due("L 8", x.cost(8, 1, 0), -1);
        due("B -1", x.cost(0, -1, 0), -1);
        x.family(6, 2);
        x.family(4, 2);
        due("a FAMILY together", x.cost(0, 1, 1), 2);
        LoanNames none = Check.bundled(OUT);
        due("no cost", none.cost(0, 1, 0), 0);
        due("who has none", none.cost(0, 1, 1), -1);
    }
}
