/** Promises 12 to 24: what is asked of the BUNDLE. */
final class PromisesOfBundles {
    private static final String OUT = "pass a b coin 10 at 5";
    private static final String BACK = "pass b a coin 12 at 9";
    private static final String BOTH = OUT + "," + BACK;
    private static final String CHOICES = Check.repeat("choice c {gift c d mule 0 at 0}", 3, ",");

    private final Sentences s;

    PromisesOfBundles(Sentences s) {
        this.s = s;
    }

    /** Goes on where PromisesOfTexts ends. */
    void hold() {
        add();
        clear();
        passed();
        net();
        codes();
        lends();
        price();
        loan();
        step();
        bears();
        cost();
        breach();
        bars();
    }

    /** BOTH, and nine CHOICES with it. */
    private LoanNames notLooked() {
        return s.bundled(BOTH, CHOICES, CHOICES, CHOICES);
    }

    private void add() {
        s.under("Promise 12: add");
        s.of("A DEAL behind the others of the BUNDLE: how many.");
        LoanNames x = s.told(OUT, BACK, OUT, OUT, OUT, OUT, OUT);
        s.due("the first", x.add(1), 1);
        s.due("the second", x.add(0), 2);
        s.due("in their row", x.passed(0, 0, 4), 12);
        s.of("NONE, doing nothing: none such, it's in, 6 are.");
        String before = Sentences.state(x);
        s.each("none such", x::add, -1, -1, 7, 23, 24);
        s.due("it's in", x.add(0), -1);
        s.due("it's in", x.add(1), -1);
        s.due("all", Sentences.state(x), before);
        for (int deal = 2; deal < 6; deal++) {
            s.due("add", x.add(deal), deal + 1);
        }
        before = Sentences.state(x);
        s.due("6 are", x.add(6), -1);
        s.due("6 are, and it's in", x.add(5), -1);
        s.due("all", Sentences.state(x), before);
    }

    private void clear() {
        s.under("Promise 13: clear");
        s.of("The BUNDLE is empty: how many there were.");
        LoanNames x = s.told(OUT, BACK, OUT, OUT, OUT, OUT, OUT);
        s.due("none", x.clear(), 0);
        s.due("none again", x.clear(), 0);
        for (int deal = 0; deal < 6; deal++) {
            x.add(deal);
        }
        s.due("six", x.clear(), 6);
        s.due("none then", x.count(4), 0);
        s.due("no LEAVES", x.count(7), 0);
        s.due("no rows", x.passed(0, -1, 0), 0);
        s.due("no loan", x.loan(), -1);
        s.due("it's in no more", x.add(6), 1);
        s.due("one", x.clear(), 1);
        s.due("DEALS stay", x.count(0), 7);
    }

    private void passed() {
        s.under("Promise 14: passed");
        s.of("Of the k-th row that PASSES in the BUNDLE by a CODE: 0 DAY, 1, 2 HANDS, 3 THING, 4 how much.");
        LoanNames x = s.bundled("if rain {sale c d grain 7 for 8 at 0 paid 9} else {gift d c coin 0 at 1}",
            "choice a {times 3 {hire a h work 2 for 4 at 5 back 6}} or {pass b a coin 9 at 399}");
        s.row(x, 0, 0, 1, 3, 2, 0, 0);
        s.row(x, 0, 1, 5, 0, 7, 4, 6);
        s.row(x, 0, 2, 6, 7, 0, 4, 6);
        s.row(x, 0, 3, 6, 7, 0, 0, 12);
        s.row(x, 34, 0, 0, 2, 3, 5, 7);
        s.row(x, 34, 1, 9, 3, 2, 0, 8);
        s.row(x, 34, 2, 399, 1, 0, 0, 9);
        x.family(1, 0);
        s.due("a HAND, not its FAMILY", x.passed(34, 2, 1), 1);
        LoanNames full = new LoanNames();
        for (int deal = 0; deal < 6; deal++) {
            Check.deal(full, Check.repeat("hire a b coin " + deal + " for 1 at 3 back 7", 12, ","));
            full.add(deal);
        }
        s.due("the last row of a full one", full.passed(0, 215, 4), 1);
        s.due("the last but one", full.passed(0, 214, 4), 5);
        s.due("none behind it", full.passed(0, 216, 4), -1);
        s.of("How many rows (k NONE, what 0).");
        s.due("rows by 0", x.passed(0, -1, 0), 4);
        s.due("rows by rain", x.passed(2, -1, 0), 5);
        s.due("rows by all", x.passed(63, -1, 0), 3);
        s.due("rows of a full one", full.passed(31, -1, 0), 216);
        s.due("rows of none", new LoanNames().passed(0, -1, 0), 0);
        s.of("NONE: none such (CODES below 32 times 2 to the CHOICES).");
        s.each("k", k -> x.passed(0, k, 0), -1, 4, 5, 216);
        s.each("what", what -> x.passed(0, 0, what), -1, -1, 5, 6);
        s.each("what of how many", what -> x.passed(0, -1, what), -1, -1, 1, 4, 5);
        s.each("CODE", code -> x.passed(code, 0, 0), -1, -1, 64);
        s.each("CODE of how many", code -> x.passed(code, -1, 0), -1, -1, 64);
        s.each("CODE without CHOICES", code -> full.passed(code, -1, 0), -1, -1, 32);
        s.each("CODE of none", code -> new LoanNames().passed(code, -1, 0), -1, -1, 32);
    }

    private void net() {
        s.under("Promise 15: net");
        s.of("NET of a FAMILY of a THING on a DAY (0 to 9,999), or over all (day NONE).");
        LoanNames x = s.bundled("sale a b mule 3 for 20 at 0 paid 399", "choice a {gift b h mule 1 at 1} or {gift h b mule 2 at 2}");
        s.due("over all", x.net(0, 1, 1, -1), 2);
        s.due("over all by the second part", x.net(32, 1, 1, -1), 5);
        s.due("on DAY 0", x.net(0, 1, 1, 0), 3);
        s.due("on DAY 1", x.net(0, 1, 1, 1), -1);
        s.due("on DAY 399", x.net(0, 0, 0, 399), 20);
        s.due("on DAY 9,999", x.net(0, 1, 1, 9999), 0);
        s.due("of the last FAMILY", x.net(63, 7, 1, 2), -2);
        s.due("of the last THING", x.net(63, 7, 5, -1), 0);
        s.of("-1,000,000,000,000: none such.");
        s.each("CODE", code -> x.net(code, 0, 0, 0), Sentences.NO_SUM, -1, 64);
        s.each("FAMILY", family -> x.net(0, family, 0, 0), Sentences.NO_SUM, -1, 8);
        s.each("THING", thing -> x.net(0, 0, thing, 0), Sentences.NO_SUM, -1, 6);
        s.each("DAY", day -> x.net(0, 0, 0, day), Sentences.NO_SUM);
        s.each("CODE of none", code -> new LoanNames().net(code, 0, 0, -1), Sentences.NO_SUM, -1, 32);
    }

    private void codes() {
        s.under("Promise 16: codes");
        s.of("ALL CODES: how many.");
        s.due("of none", new LoanNames().codes(), 1);
        s.due("of one without any", s.bundled(OUT).codes(), 1);
        s.due("of an EVENT", s.bundled("if war {" + OUT + "}").codes(), 2);
        s.due("of a CHOICE, too", s.bundled("if war {choice a {" + OUT + "}}").codes(), 4);
        LoanNames x = s.bundled(CHOICES, "if dies {" + OUT + "}," + CHOICES);
        s.due("of seven", x.codes(), 128);
        Check.deal(x, "if war {" + OUT + "}");
        Check.deal(x, "if dear {" + OUT + "}");
        x.add(2);
        s.due("of eight", x.codes(), 256);
        s.of("NONE: not LOOKED at.");
        x.add(3);
        s.due("of nine", x.codes(), -1);
        x.clear();
        s.due("of none", x.codes(), 1);
    }

    private void lends() {
        s.under("Promise 17: lends");
        s.of("By how many of ALL CODES L LENDS to B.");
        LoanNames x = s.bundled(BOTH, "if rain {pass a b coin 2 at 10}", "choice a {gift c d coin 1 at 0}");
        s.due("by some", x.lends(0, 1), 2);
        s.due("by none", x.lends(1, 0), 0);
        s.due("by all", s.bundled(BOTH, CHOICES, CHOICES).lends(0, 1), 64);
        s.due("the last pair", x.lends(7, 6), 0);
        s.due("of none", new LoanNames().lends(0, 1), 0);
        s.of("NONE: not LOOKED at, none such.");
        s.due("not LOOKED at", notLooked().lends(0, 1), -1);
        s.each("L", l -> x.lends(l, 1), -1, -1, 8);
        s.each("B", b -> x.lends(0, b), -1, -1, 8);
        s.each("both", both -> x.lends(both, both), -1, -1, 0, 1, 7, 8);
    }

    private void prices(LoanNames x, long... want) {
        for (int what = 0; what < 4; what++) {
            s.due("price, what " + what, x.price(0, 1, what), want[what]);
        }
    }

    private void price() {
        s.under("Promise 18: price");
        s.of("PRICE: the least by those CODES: the upper number (what 0), the lower one (1), the greatest: (2), (3).");
        prices(s.bundled(BOTH), 1, 20, 1, 20);
        prices(s.bundled(OUT, "choice b {" + BACK + "} or {times 2 {" + BACK + "}}"), 1, 20, 7, 20);
        // 1 by 2, 2 by 5, 1 by 2, 3 by 5, in any order.
        String[] shares = {"pass a b coin 2 at 0,pass b a coin 3 at 1", "pass a b coin 5 at 0,pass b a coin 7 at 1",
            "pass a b coin 4 at 0,pass b a coin 6 at 1", "pass a b coin 5 at 0,pass b a coin 8 at 1"};
        for (int turn = 0; turn < 4; turn++) {
            prices(s.well("if rain {if war {" + shares[turn] + "} else {" + shares[(turn + 1) % 4] + "}} else {if war {"
                + shares[(turn + 2) % 4] + "} else {" + shares[(turn + 3) % 4] + "}}"), 2, 5, 3, 5);
        }
        // By no CODE but those by which L LENDS.
        prices(s.well("if rain {" + BOTH + "},if war {" + OUT + ",pass b a coin 12 at 6}"), 1, 20, 1, 5);
        prices(s.well("if rain {" + BOTH + "} else {" + BACK + "}"), 1, 20, 1, 20);
        // Products of these numbers are beyond a long: they part by one in 10 to the 11th.
        String nines = "times 9 {".repeat(5);
        LoanNames near = s.bundled(nines + "pass a b coin 9999 at 0,pass b a coin 9999 at 399,pass b a coin 9998 at 399}}}}}",
            "choice b {pass b a coin 1 at 399} or {pass b a coin 2 at 399}");
        long upper = 9998L * 59049 + 1;
        long lower = 9999L * 59049 * 399;
        long one = divisor(upper, lower);
        long two = divisor(upper + 1, lower);
        prices(near, upper / one, lower / one, (upper + 1) / two, lower / two);
        s.of("NONE: by none, not LOOKED at, none such.");
        LoanNames x = s.bundled(BOTH);
        LoanNames not = notLooked();
        for (int what = 0; what < 4; what++) {
            s.due("by none", x.price(1, 0, what), -1);
            s.due("not LOOKED at", not.price(0, 1, what), -1);
            s.due("of none", new LoanNames().price(0, 1, what), -1);
        }
        s.each("L", l -> x.price(l, 1, 0), -1, -1, 8);
        s.each("B", b -> x.price(0, b, 0), -1, -1, 8);
        s.each("both", both -> x.price(both, both, 0), -1, -1, 0, 1, 7, 8);
        s.each("what", what -> x.price(0, 1, what), -1, -1, 4, 5);
        x.clear();
        s.due("by none any more", x.price(0, 1, 0), -1);
    }

    private static long divisor(long a, long b) {
        return b == 0 ? a : divisor(b, a % b);
    }

    private void loan() {
        s.under("Promise 19: loan");
        s.of("LOAN: 10 times L and B.");
        s.due("0 to 1", s.bundled(BOTH).loan(), 1);
        s.due("7 to 6", s.bundled("pass h g coin 1 at 0,pass g h coin 2 at 1").loan(), 76);
        LoanNames x = s.bundled(BOTH);
        x.family(1, 0);
        x.family(0, 7);
        s.due("by FAMILIES", x.loan(), 70);
        s.of("NONE: it's none, not LOOKED at.");
        x.family(1, 7);
        s.due("within a FAMILY", x.loan(), -1);
        s.due("of none", new LoanNames().loan(), -1);
        s.due("by half of them", s.bundled(BOTH, "if rain {pass a b coin 2 at 10}").loan(), -1);
        s.due("not LOOKED at", notLooked().loan(), -1);
    }

    private void step() {
        s.under("Promise 20: step");
        s.of("STEP.");
        s.due("of a LOAN", s.bundled(BOTH).step(), 2);
        s.due("the least", s.bundled(BOTH, "if rain {pass a b coin 1 at 9}").step(), 1);
        s.of("NONE: no LOAN.");
        s.due("of none", new LoanNames().step(), -1);
        s.due("of less", s.bundled(OUT).step(), -1);
        s.due("by half of them", s.bundled(BOTH, "if rain {pass a b coin 2 at 9}").step(), -1);
        s.due("not LOOKED at", notLooked().step(), -1);
    }

    private void bears() {
        s.under("Promise 21: bears");
        s.of("BEARS.");
        LoanNames x = s.bundled("if dies {" + OUT + "},if flood {pass h g coin 3 at 0}", CHOICES, CHOICES, CHOICES);
        s.due("the first FAMILY of the first EVENT", x.bears(0, 0), -10);
        s.due("the last FAMILY of the last EVENT", x.bears(7, 4), -3);
        s.due("who gets it", x.bears(6, 4), 3);
        s.due("nothing", x.bears(7, 0), 0);
        s.due("that's not LOOKED at", x.codes(), -1);
        s.of("-1,000,000,000,000: none such.");
        s.each("FAMILY", family -> x.bears(family, 0), Sentences.NO_SUM, -1, 8);
        s.each("EVENT", event -> x.bears(0, event), Sentences.NO_SUM, -1, 5, 31, 32);
    }

    private void cost() {
        s.under("Promise 22: cost");
        s.of("COST (what 0), who has the most (1; NONE).");
        LoanNames x = s.bundled("pass a h coin 3 at 0,pass a c coin 2 at 9", CHOICES, CHOICES, CHOICES);
        s.due("cost", x.cost(0, 1, 0), 5);
        s.due("who has the most", x.cost(0, 1, 1), 7);
        s.due("of the last ones", x.cost(7, 6, 0), 2);
        s.due("nobody", x.cost(2, 7, 1), -1);
        s.due("nothing", x.cost(2, 7, 0), 0);
        s.due("nobody of none", new LoanNames().cost(0, 1, 1), -1);
        s.due("that's not LOOKED at", x.codes(), -1);
        s.of("NONE: none such.");
        s.each("L", l -> x.cost(l, 1, 0), -1, -1, 8);
        s.each("B", b -> x.cost(0, b, 0), -1, -1, 8);
        s.each("both", both -> x.cost(both, both, 0), -1, -1, 0, 1, 7, 8);
        s.each("what", what -> x.cost(0, 1, what), -1, -1, 2, 3);
    }

    private void breach() {
        s.under("Promise 23: breach");
        s.of("BREACH of the BUNDLE: the statement (what 0), first LEAF (1; by its place among all LEAVES of the BUNDLE), second (2; NONE).");
        LoanNames x = s.bundled("gift a b mule 1 at 3,pass b a coin 1 at 2", "gift a b cloth 1 at 9,hire a b house 1 for 1 at 3 back 4");
        Check.law(x, "bar sale;bar gift of mule then hire;bar any;");
        s.due("the statement", x.breach(0), 1);
        s.due("first LEAF", x.breach(1), 0);
        s.due("second", x.breach(2), 3);
        x.clear();
        x.add(1);
        x.add(0);
        s.due("the statement", x.breach(0), 2);
        s.due("first LEAF", x.breach(1), 0);
        s.due("no second", x.breach(2), -1);
        Check.law(x, "bar gift of mule;");
        s.due("by its place among all", x.breach(1), 2);
        LoanNames two = s.bundled("gift a b mule 1 at 3,gift a b mule 1 at 4");
        Check.law(two, "bar any;");
        Check.law(two, "bar any then any;");
        s.due("second", two.breach(2), 1);
        s.of("NONE: none, none such.");
        s.each("what", x::breach, -1, -1, 3, 4);
        s.each("what", two::breach, -1, -1, 3, 4);
        Check.law(x, "bar sale;");
        for (int what = 0; what < 3; what++) {
            s.due("none", x.breach(what), -1);
            s.due("of no BUNDLE and LAW", new LoanNames().breach(what), -1);
        }
        Check.law(x, "bar any;");
        s.due("one", x.breach(0), 0);
        x.clear();
        s.due("none of the empty one", x.breach(0), -1);
    }

    private void bars() {
        s.under("Promise 24: bars");
        s.of("Whether a WORD BARS the BUNDLE: 1, 0.");
        LoanNames x = s.bundled("gift a b mule 1 at 3", "gift b a mule 1 at 3");
        Check.word(x, Check.repeat("bar hire;", 11, "") + "bar gift then any back;");
        Check.word(x, "bar gift then any more;");
        s.due("by its last statement", x.bars(0), 1);
        s.due("by none", x.bars(1), 0);
        x.clear();
        s.due("the empty one", x.bars(0), 0);
        x.add(0);
        s.due("one of two", x.bars(0), 0);
        Check.law(x, "bar any;");
        s.due("beside the LAW", x.bars(0), 0);
        s.of("NONE: none such.");
        s.each("WORD", x::bars, -1, -1, 2, 11, 12);
        s.due("without WORDS", new LoanNames().bars(0), -1);
    }
}
