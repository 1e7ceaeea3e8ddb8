/** The document's Terms of LAWS and WORDS, SLY sets, HONEST BUNDLES, WORDS that stop, and HEAPS. */
final class TermsOfLaws {
    private static final String DEAR = "sale a b mule 1 for 12 at 0 paid 9";
    private static final String CHEAP = "sale b a mule 1 for 10 at 0";
    private static final String LOAN = "pass a b coin 1 at 0,pass b a coin 2 at 1";
    private static final String[] THINGS = {"coin", "mule", "cloth", "house", "work", "grain"};
    private static final String[] LEAVES = {"pass a b mule 1 at 3", "gift a b mule 1 at 3", "sale a b mule 1 for 1 at 3",
        "hire a b mule 1 for 1 at 3 back 4"};
    private static final String[] FORMS = {"pass", "gift", "sale", "hire", "any"};

    private final Sentences s;

    TermsOfLaws(Sentences s) {
        this.s = s;
    }

    /** Goes on where TermsOfBundles ends. */
    void hold() {
        texts();
        limits();
        inForce();
        single();
        secondBehindFirst();
        ties();
        within();
        breaches();
        sly();
        slyOfFewest();
        honest();
        stops();
        parts();
        heaps();
        groups();
        constants();
    }

    private void ruleWell(String text, int statements) {
        LoanNames x = new LoanNames();
        s.due("law " + text, Check.law(x, text), 0);
        s.due("its statements", x.count(2), statements);
        s.due("word " + text, Check.word(x, text), 0);
        s.due("no fault of " + text, x.fault(), -1);
    }

    private void texts() {
        s.of("LAWS and WORDS are texts: {\"bar\" FORM [\"of\" THING] [\"then\" FORM [\"of\" THING] {\"back\" | \"same\" | \"more\"} "
            + "[\"within\" NUMBER]] \";\"}.");
        String whole = "bar gift of mule then sale of coin back same more back within 9999 ;";
        String[] all = whole.split(" ");
        StringBuilder now = new StringBuilder();
        for (String token : all) {
            now.append(now.length() == 0 ? "" : " ").append(token);
            if (token.equals(";")) {
                ruleWell(now.toString(), 1);
            } else {
                s.ruleFault(now.toString(), now.length());
            }
        }
        ruleWell("bar gift;", 1);
        ruleWell("bar gift of mule;", 1);
        ruleWell("bar gift then sale;", 1);
        ruleWell("bar gift then sale within 0;", 1);
        ruleWell("bar gift then sale more;bar any;\nbar any then any same;", 3);
        ruleWell(" bar any ; ", 1);
        s.ruleFault(";", 0);
        s.ruleFault("bar;", 3);
        s.ruleFault("bar any", 7);
        s.ruleFault("bar any;;", 8);
        s.ruleFault("bar any,bar any;", 7);
        s.ruleFault("bar any bar any;", 8);
        s.ruleFault("bar any back;", 8);
        s.ruleFault("bar any within 3;", 8);
        s.ruleFault("bar any of mule of mule;", 16);
        s.ruleFault("bar any then;", 12);
        s.ruleFault("bar any then of mule;", 13);
        s.ruleFault("bar any then any then any;", 17);
        s.ruleFault("bar any then any back of mule;", 22);
        s.ruleFault("bar any then any within 3 back;", 26);
        s.ruleFault("bar any then any within 3 within 3;", 26);
        s.ruleFault("bar any then any within 10000;", 24);
        s.ruleFault("bar any then any within 00001;", 24);
        s.ruleFault("bar any then any within -1;", 24);
        s.ruleFault("bar any of dies;", 11);
        s.of("FORM: pass, gift, sale, hire, any.");
        for (String form : FORMS) {
            ruleWell("bar " + form + " then " + form + ";", 1);
            s.ruleFault("bar " + form + "s;", 4);
            s.ruleFault("bar gift then " + form.substring(1) + ";", 14);
        }
        s.ruleFault("bar after;", 4);
        s.ruleFault("bar choice;", 4);
    }

    private void limits() {
        s.of("At most 16 statements (12 in a WORD, at least one there).");
        LoanNames x = new LoanNames();
        s.due("no statement", Check.law(x, ""), 0);
        s.due("sixteen", Check.law(x, Check.repeat("bar any;", 16, "")), 1);
        s.due("they are there", x.count(2), 16);
        s.due("seventeen", Check.law(x, Check.repeat("bar any;", 17, "")), -1);
        s.due("no statement of a WORD", Check.word(x, ""), -1);
        s.due("its fault", x.fault(), 0);
        s.due("nor by blanks", Check.word(x, " \n "), -1);
        s.due("its fault", x.fault(), 3);
        s.due("one of a WORD", Check.word(x, "bar any;"), 0);
        s.due("twelve", Check.word(x, Check.repeat("bar any;", 12, "")), 1);
        s.due("thirteen", Check.word(x, Check.repeat("bar any;", 13, "")), -1);
        s.of("FAULT likewise (the 17th, 13th statement: where it begins).");
        s.due("the 17th", Check.law(x, Check.repeat("bar any;", 17, " ")), -1);
        s.due("where it begins", x.fault(), 16 * 9);
        s.due("the 17th, begun", Check.law(x, Check.repeat("bar any;", 16, " ") + "\n bar"), -1);
        s.due("where it begins", x.fault(), 16 * 9 + 1);
        s.due("the 13th", Check.word(x, Check.repeat("bar any;", 13, " ")), -1);
        s.due("where it begins", x.fault(), 12 * 9);
        s.due("what begins none", Check.word(x, Check.repeat("bar any;", 12, " ") + " gift"), -1);
        s.due("is one there, too", x.fault(), 12 * 9);
        s.due("a fault in the 16th", Check.law(x, Check.repeat("bar any;", 15, " ") + " bar none;"), -1);
        s.due("is there", x.fault(), 15 * 9 + 4);
    }

    private void inForce() {
        s.of("The LAW told last (of up to 6) is in force; none: bare.");
        LoanNames x = s.bundled(LEAVES);
        s.due("no LAW", x.breach(0), -1);
        s.due("no statements", x.count(2), 0);
        s.due("all is let", x.innocent(x.honest(), 0), 1);
        for (int form = 3; form >= 0; form--) {
            s.due("a LAW", Check.law(x, "bar " + FORMS[form] + " of mule;"), 3 - form);
            s.due("bars by its own", x.breach(1), form);
        }
        s.due("a bare one", Check.law(x, " "), 4);
        s.due("bars nothing", x.breach(0), -1);
        s.due("one with a FAULT", Check.law(x, "bar any; bar"), -1);
        s.due("is not in force", x.breach(0), -1);
        s.due("the 6th", Check.law(x, "bar any;"), 5);
        s.due("is", x.breach(0), 0);
        s.due("the 7th", Check.law(x, ""), -3);
        s.due("isn't", x.breach(0), 0);
        s.of("WORDS, up to 12, are told beside it.");
        for (int word = 0; word < 12; word++) {
            s.due("a WORD", word == 0 ? x.word(0) : -1, -1);
            s.due("a WORD", Check.word(x, word % 2 == 0 ? "bar any of grain;" : "bar hire;"), word);
            s.due("bars for itself", x.bars(word), word % 2);
            s.due("the LAW is as it was", x.count(2), 1);
        }
        s.due("the 13th", Check.word(x, "bar any;"), -3);
    }

    /** The LEAVES by which a statement BARS, NONE for both if it doesn't. */
    private void bars(String statement, int first, int second, String... deals) {
        LoanNames x = s.bundled(deals);
        String told = statement + " / " + String.join(" / ", deals);
        s.due("law", Check.law(x, statement), 0);
        s.due("word", Check.word(x, statement), 0);
        s.due("statement of " + told, x.breach(0), first == -1 ? -1 : 0);
        s.due("first of " + told, x.breach(1), first);
        s.due("second of " + told, x.breach(2), second);
        s.due("bars by " + told, x.bars(0), first == -1 ? 0 : 1);
        if (deals.length > 0) {
            s.due("let by " + told, x.innocent(x.honest(), 0), first == -1 ? 1 : 0);
        }
    }

    private void single() {
        s.of("A statement BARS a BUNDLE: without \"then\": by a LEAF (the first in order: DEAL by DEAL, by the text) of that FORM "
            + "(any: each) and THING.");
        for (int form = 0; form < 4; form++) {
            bars("bar " + FORMS[form] + ";", form, -1, LEAVES);
            bars("bar " + FORMS[form] + " of mule;", form, -1, LEAVES);
            bars("bar " + FORMS[form] + " of house;", -1, -1, LEAVES);
            bars("bar any;", 0, -1, LEAVES[form]);
            for (int other = 0; other < 4; other++) {
                bars("bar " + FORMS[form] + ";", form == other ? 0 : -1, -1, LEAVES[other]);
            }
        }
        for (int thing = 0; thing < 6; thing++) {
            bars("bar any of " + THINGS[thing] + ";", thing, -1, "gift a b coin 1 at 5,gift a b mule 1 at 4",
                "gift a b cloth 1 at 3", "gift a b house 1 at 2,gift a b work 1 at 1,gift a b grain 1 at 0");
        }
        bars("bar any;", -1, -1);
        bars("bar sale of coin;", -1, -1, LEAVES);
        bars("bar gift;", 1, -1, "hire a b mule 1 for 1 at 9 back 9,gift a b mule 0 at 9", "gift a b mule 1 at 0");
        String twelve = Check.repeat(LEAVES[1], 12, ",");
        String last = Check.repeat(LEAVES[1], 11, ",") + "," + LEAVES[3];
        bars("bar hire;", 71, -1, twelve, twelve, twelve, twelve, twelve, last);
        bars("bar sale;", -1, -1, twelve, twelve, twelve, twelve, twelve, last);
    }

    private void secondBehindFirst() {
        s.of("With it: by two LEAVES, the first one of the first FORM and THING, the second of the second,");
        bars("bar gift of mule then any of cloth;", 1, 2, "gift a b cloth 1 at 0,gift a b mule 1 at 0,pass a b cloth 1 at 0");
        bars("bar gift then sale;", 1, 2, LEAVES);
        bars("bar gift then gift;", -1, -1, LEAVES);
        bars("bar gift then sale of coin;", -1, -1, LEAVES);
        bars("bar gift of coin then sale;", -1, -1, LEAVES);
        bars("bar any then any;", 0, 1, LEAVES);
        bars("bar any then any;", -1, -1, LEAVES[0]);
        bars("bar any then any;", -1, -1);
        s.of("the second's DAY (\"at\", with all \"after\") later, or the same and behind it in order;");
        bars("bar gift then sale;", 0, 1, "gift a b mule 1 at 5,sale a b mule 1 for 1 at 6");
        bars("bar gift then sale;", 0, 1, "gift a b mule 1 at 5,sale a b mule 1 for 1 at 5");
        bars("bar gift then sale;", -1, -1, "gift a b mule 1 at 5,sale a b mule 1 for 1 at 4 paid 9");
        bars("bar gift then sale;", 1, 0, "sale a b mule 1 for 1 at 6,gift a b mule 1 at 5");
        bars("bar gift then sale;", -1, -1, "sale a b mule 1 for 1 at 5,gift a b mule 1 at 5");
        bars("bar gift then sale;", 1, 0, "sale a b mule 1 for 1 at 6", "gift a b mule 1 at 5");
        bars("bar gift then sale;", 0, 1, "gift a b mule 1 at 5", "sale a b mule 1 for 1 at 5");
        bars("bar gift then sale;", -1, -1, "sale a b mule 1 for 1 at 5", "gift a b mule 1 at 5");
        bars("bar gift then sale;", 1, 0, "after 0 {after 1 {sale a b mule 1 for 1 at 5}}", "gift a b mule 1 at 5");
        bars("bar gift then sale;", -1, -1, "after 1 {sale a b mule 1 for 1 at 5}", "after 2 {gift a b mule 1 at 5}");
        bars("bar gift then gift;", -1, -1, "gift a b mule 1 at 5");
        bars("bar gift then gift;", 0, 1, "gift a b mule 1 at 5,gift a b mule 1 at 5");
        bars("bar gift then gift;", 1, 0, "gift a b mule 1 at 5,gift a b mule 1 at 4");
        // The DAY of "back" or "paid" is none of them.
        bars("bar hire then gift;", 0, 1, "hire a b mule 1 for 1 at 3 back 9,gift a b mule 1 at 4");
        bars("bar gift then hire;", -1, -1, "hire a b mule 1 for 1 at 3 back 9,gift a b mule 1 at 4");
    }

    private void ties() {
        s.of("\"back\": the second's second HAND is of the FAMILY of the first's first one, and the other way round;");
        bars("bar sale then any back;", 0, 1, DEAR, "gift b a cloth 1 at 1");
        bars("bar sale then any back;", -1, -1, DEAR, "gift a b cloth 1 at 1");
        bars("bar sale then any back;", -1, -1, DEAR, "gift c a cloth 1 at 1");
        bars("bar sale then any back;", -1, -1, DEAR, "gift b c cloth 1 at 1");
        LoanNames x = s.bundled(DEAR, "gift c d mule 1 at 1");
        Check.law(x, "bar sale then gift back;");
        s.due("other FAMILIES", x.breach(0), -1);
        x.family(2, 1);
        s.due("one of them", x.breach(0), -1);
        x.family(3, 0);
        s.due("both", x.breach(0), 0);
        x.family(2, 0);
        s.due("the other one", x.breach(0), -1);
        x.family(1, 0);
        s.due("all of one FAMILY", x.breach(0), 0);
        s.of("\"same\": of the same THING;");
        for (int thing = 0; thing < 6; thing++) {
            bars("bar sale then any same;", thing == 1 ? 0 : -1, thing == 1 ? 1 : -1, DEAR, "gift c d " + THINGS[thing] + " 3 at 1");
        }
        bars("bar sale of mule then any of cloth same;", -1, -1, DEAR, "gift c d cloth 3 at 1,gift c d mule 3 at 1");
        s.of("\"more\": its \"for\" (pass, gift: 0) is above the first's;");
        bars("bar any then any more;", 0, 1, DEAR, "hire c d cloth 3 for 13 at 1 back 1");
        bars("bar any then any more;", -1, -1, DEAR, "sale c d cloth 3 for 12 at 1");
        bars("bar any then any more;", -1, -1, DEAR, "gift c d cloth 99 at 1");
        for (int form = 0; form < 2; form++) {
            bars("bar any then any more;", 0, 1, LEAVES[form], "sale a b mule 1 for 1 at 3");
            bars("bar any then any more;", -1, -1, LEAVES[form], "sale a b mule 1 for 0 at 3");
            bars("bar any then any more;", -1, -1, LEAVES[form], "pass a b mule 99 at 3");
            bars("bar any then any more;", -1, -1, "sale a b mule 1 for 0 at 3", LEAVES[form]);
        }
        // All ties at once: each must hold.
        String tied = "bar sale then sale more same back;";
        bars(tied, 0, 1, DEAR, "sale b a mule 1 for 13 at 0");
        bars(tied, -1, -1, DEAR, "sale b a mule 1 for 12 at 0", "sale b a house 1 for 13 at 0", "sale c a mule 1 for 13 at 0");
    }

    private void within() {
        s.of("\"within\": DAYS at most so many apart.");
        String[] deals = {"gift a b mule 1 at 3", "after 7 {gift a b mule 1 at 0}"};
        bars("bar gift then gift within 3;", -1, -1, deals);
        bars("bar gift then gift within 4;", 0, 1, deals);
        bars("bar gift then gift within 0;", -1, -1, deals);
        bars("bar gift then gift within 0;", 0, 1, "gift a b mule 1 at 3,gift a b mule 1 at 3");
        bars("bar gift then gift within 0;", -1, -1, "gift a b mule 1 at 3,gift a b mule 1 at 4");
        bars("bar gift then gift within 9999;", 1, 0, "after 399{".repeat(6) + "gift a b mule 1 at 399" + "}".repeat(6),
            "gift a b mule 1 at 0");
        bars("bar gift then gift within 2792;", -1, -1, "after 399{".repeat(6) + "gift a b mule 1 at 399" + "}".repeat(6),
            "gift a b mule 1 at 0");
        bars("bar gift then gift within 2793;", 1, 0, "after 399{".repeat(6) + "gift a b mule 1 at 399" + "}".repeat(6),
            "gift a b mule 1 at 0");
        bars("bar hire then sale within 4;", -1, -1, "hire a b mule 1 for 1 at 0 back 5,sale a b mule 1 for 1 at 5");
        s.of("(LEAVES count whatever comes, whatever \"times\".)");
        bars("bar gift then hire;", 0, 2, "times 0 {gift a b mule 1 at 3}", "times 0 {if rain {if rain {times 2 {"
            + "pass a b coin 0 at 0}} else {hire a b mule 1 for 1 at 3 back 3}}}");
        bars("bar gift;", 0, -1, "choice a {times 0 {gift a b mule 0 at 0}} or {pass a b mule 0 at 0}");
    }

    private void breaches() {
        s.of("BREACH: the first statement of the LAW that BARS;");
        LoanNames x = s.bundled("gift a b mule 1 at 3,pass b a coin 1 at 2");
        Check.law(x, "bar hire;bar pass then gift;bar any;");
        s.due("statement", x.breach(0), 1);
        s.due("its first LEAF", x.breach(1), 1);
        s.due("its second", x.breach(2), 0);
        Check.law(x, Check.repeat("bar hire;", 15, "") + "bar gift;");
        s.due("the last there can be", x.breach(0), 15);
        s.of("by its first LEAF, the least, then its second, the least.");
        bars("bar any then any;", 0, 2, "gift a b mule 1 at 5,gift a b mule 1 at 4,gift a b mule 1 at 6,gift a b mule 1 at 7");
        bars("bar gift then gift;", 1, 0, "gift a b mule 1 at 9,gift a b mule 1 at 4,gift a b mule 1 at 5", "gift a b mule 1 at 4");
        bars("bar gift then gift same;", 1, 3, "gift a b cloth 1 at 0,gift a b mule 1 at 0,gift a b house 1 at 0,gift a b mule 1 at 0");
        s.of("The LAW LETS a BUNDLE without BREACH.");
        LoanNames y = s.bundled(LEAVES[1]);
        s.due("honest", y.honest(), 0);
        Check.law(y, "bar hire;bar gift then any;");
        s.due("it is let", y.innocent(0, 0), 1);
        s.due("without BREACH", y.breach(0), -1);
        Check.law(y, "bar hire;bar gift then any;bar gift;");
        s.due("it isn't let", y.innocent(0, 0), 0);
        s.due("by a BREACH", y.breach(0), 2);
    }

    private void slyIs(LoanNames x, int k, int many, int set) {
        s.due("how many by " + k, x.sly(k, 0), many);
        s.due("the fewest by " + k, x.sly(k, 1), set);
    }

    private void sly() {
        s.of("OFFERED DEALS, up to 10.");
        String[] ten = new String[10];
        java.util.Arrays.fill(ten, LOAN);
        LoanNames all = s.offered(ten);
        s.due("deal", Check.deal(all, LOAN), 10);
        s.due("the 11th", all.offer(10), -1);
        s.of("SLY by k: sets of 1 to k (1 to 6) OFFERED ones,");
        int[] sets = {10, 55, 175, 385, 637, 847};
        for (int k = 1; k <= 6; k++) {
            s.due("sets of up to " + k, all.sly(k, 0), sets[k - 1]);
        }
        s.due("sets of up to 1 again", all.sly(1, 0), 10);
        s.due("by 0", all.sly(0, 0), -1);
        s.due("by 7", all.sly(7, 0), -1);
        LoanNames none = s.told(LOAN);
        slyIs(none, 6, 0, -1);
        none.offer(0);
        slyIs(none, 1, 1, 1);
        s.of("in the order offered,");
        LoanNames order = s.told(DEAR, CHEAP);
        order.offer(1);
        order.offer(0);
        Check.law(order, "bar sale then sale more;");
        slyIs(order, 2, 0, -1);
        LoanNames other = s.told(DEAR, CHEAP);
        other.offer(0);
        other.offer(1);
        Check.law(other, "bar sale then sale more;");
        slyIs(other, 2, 1, 3);
        s.of("that the LAW LETS,");
        Check.law(all, "bar gift;");
        slyIs(all, 6, 847, 1);
        Check.law(all, "bar pass then pass within 0;");
        slyIs(all, 6, 10, 1);
        Check.law(all, "bar pass;");
        slyIs(all, 6, 0, -1);
        Check.law(all, "");
        slyIs(all, 6, 847, 1);
        s.of("that are LOOKED at and are a LOAN: how many,");
        String three = Check.repeat("choice c {gift c d cloth 0 at 0}", 3, ",");
        LoanNames looked = s.offered(LOAN + "," + three, three, "choice c {gift c d cloth 0 at 0},choice c {gift c d cloth 0 at 0}", three);
        slyIs(looked, 1, 1, 1);
        slyIs(looked, 2, 4, 1);
        slyIs(looked, 3, 6, 1);
        slyIs(looked, 4, 6, 1);
        LoanNames loan = s.offered(LOAN, "if rain {pass a b coin 1 at 1}", "if rain {pass b a coin 1 at 1}", "gift a c mule 1 at 0");
        slyIs(loan, 4, 3, 1);
    }

    private void slyOfFewest() {
        s.of("and the one of the fewest, of as few the least bits.");
        slyIs(s.offered(CHEAP, DEAR, LOAN, LOAN), 2, 2 + 1 + 1, 4);
        slyIs(s.offered("gift c d cloth 1 at 0", CHEAP, DEAR, CHEAP), 3, 2 * 2, 6);
        slyIs(s.offered(DEAR, "sale c d mule 1 for 12 at 0 paid 9", "sale d c mule 1 for 10 at 0", CHEAP), 2, 2, 6);
        String[] ten = new String[10];
        java.util.Arrays.fill(ten, "gift c d cloth 1 at 0");
        ten[9] = LOAN;
        slyIs(s.offered(ten), 1, 1, 512);
        LoanNames six = s.offered("pass a b coin 1 at 0", "gift c d cloth 1 at 0", "gift d c cloth 1 at 0,gift b a mule 1 at 0",
            "gift a e mule 1 at 0,gift e f work 1 at 0", "gift e b mule 1 at 0,gift a b house 1 at 0", "gift f e work 1 at 0,"
            + "pass b a coin 1 at 1", "gift b a house 1 at 0,pass b a coin 1 at 1");
        slyIs(six, 5, 0, -1);
        slyIs(six, 6, 1, 127 - 2);
    }

    private void honest() {
        s.of("HONEST BUNDLES, up to 6, are kept as told.");
        LoanNames x = s.bundled(DEAR, CHEAP, LOAN);
        for (int i = 0; i < 6; i++) {
            s.due("honest", x.honest(), i);
            s.due("clear", x.clear(), 3 - i % 3);
            for (int k = 0; k < 3 - (i + 1) % 3; k++) {
                s.due("add", x.add((i + k) % 3), k + 1);
            }
        }
        s.due("the 7th", x.honest(), -1);
        int[][] kept = {{0, 1, 2}, {0, 1}, {1}, {2, 0, 1}, {0, 1}, {1}};
        for (int i = 0; i < 6; i++) {
            for (int k = 0; k < 6; k++) {
                s.due("DEAL " + k + " of " + i, x.innocent(i, 10 + k), k < kept[i].length ? kept[i][k] : -1);
            }
        }
    }

    private void stops() {
        s.of("STOP by k: of all sets of WORDS with which (beside the LAW) no SLY by k is let");
        LoanNames x = s.offered(DEAR, CHEAP, LOAN);
        s.due("no WORDS", x.stop(2), -1);
        Check.word(x, "bar hire;");
        s.due("one that bars none of them", x.stop(2), -1);
        Check.word(x, "bar sale;");
        s.due("one that bars some of them", x.stop(2), -1);
        Check.word(x, "bar pass;");
        s.due("two that bar all", x.stop(2), 2 + 4);
        s.due("one for those by 1", x.stop(1), 4);
        Check.law(x, "bar sale then sale;");
        s.due("what the LAW doesn't let needs none", x.stop(2), 4);
        Check.law(x, "bar any;");
        s.due("nothing is let", x.stop(2), 0);
        s.due("nothing is OFFERED", s.told(LOAN).stop(6), 0);
        s.of("and no HONEST one is barred by them");
        LoanNames y = s.offered(DEAR, CHEAP);
        Check.deal(y, "hire e f work 1 for 1 at 0 back 1");
        Check.word(y, "bar sale;");
        y.add(2);
        y.honest();
        s.due("it bars none", y.stop(2), 1);
        Check.law(y, "bar hire;");
        s.due("the LAW bars one: that's not by WORDS", y.stop(2), 1);
        y.clear();
        y.add(0);
        y.honest();
        s.due("it bars one", y.stop(2), -1);
        s.due("no WORDS bar none", y.stop(1), 0);
        Check.word(y, "bar sale then sale;");
        s.due("another bars none", y.stop(2), 2);
        y.clear();
        y.add(1);
        y.add(0);
        y.honest();
        s.due("it bars one, too", y.stop(2), -1);
        Check.law(y, "bar sale;");
        s.due("nothing to stop: no WORDS", y.stop(2), 0);
        stopsByFewest();
    }

    private void stopsByFewest() {
        s.of("the one of the fewest, of as few the least bits; none.");
        LoanNames x = s.offered(DEAR, CHEAP, "pass c d coin 1 at 0,gift d c coin 2 at 1", "hire e f coin 3 for 1 at 0 back 3");
        for (String word : new String[] {"bar sale;", "bar gift;", "bar hire;", "bar hire of coin;bar hire of house;"}) {
            Check.word(x, word);
        }
        s.due("two of four", x.stop(1), 2 + 4);
        s.due("three of four", x.stop(2), 1 + 2 + 4);
        Check.word(x, "bar hire;bar gift;bar sale;");
        s.due("one", x.stop(2), 16);
        for (int word = 5; word < 12; word++) {
            Check.word(x, "bar any;");
        }
        s.due("one of twelve, the least", x.stop(2), 16);
        LoanNames last = s.offered(LOAN);
        for (int word = 0; word < 12; word++) {
            s.due("none of those told", last.stop(1), -1);
            Check.word(last, word < 11 ? "bar sale;" : "bar pass;");
        }
        s.due("the last of twelve", last.stop(1), 2048);
        LoanNames all = s.offered("pass a b coin 1 at 0,pass b a coin 2 at 1", "gift a b cloth 0 at 0,gift c d coin 1 at 0,gift d c coin 2 at 1",
            "sale e f coin 1 for 2 at 0 paid 1", "hire g h coin 1 for 1 at 0 back 1");
        for (String form : new String[] {"pass", "gift", "sale", "hire"}) {
            Check.word(all, "bar " + form + ";");
        }
        s.due("all of them", all.stop(1), 15);
    }

    private void partsAre(String honest, String told, int want) {
        LoanNames x = s.told(honest, told);
        x.add(0);
        x.honest();
        x.clear();
        x.add(1);
        s.due("parts of " + honest + " / " + told, x.parts(0), want);
    }

    private void parts() {
        String p = "pass a b coin 2 at 1";
        s.of("PARTS of an HONEST BUNDLE from the one that is told (both LOOKED at):");
        partsAre(p, p, -1);
        String three = Check.repeat("choice c {gift c d cloth 0 at 0}", 3, ",");
        LoanNames x = s.told(three, three, three, "choice c {gift c d cloth 0 at 0},choice c {gift c d cloth 0 at 0}");
        x.add(0);
        x.add(1);
        x.add(3);
        s.due("eight CHOICES", x.honest(), 0);
        s.due("both LOOKED at", x.parts(0), -1);
        x.add(2);
        s.due("eleven CHOICES", x.honest(), 1);
        s.due("the one told isn't LOOKED at", x.parts(0), -1);
        s.due("neither is", x.parts(1), -1);
        x.clear();
        s.due("the HONEST one isn't", x.parts(1), -1);
        s.of("-2, if by CODE 0 some FAMILY's NET over all of some THING is another one;");
        partsAre(p, "pass a b coin 1 at 3,gift a b coin 1 at 4", -1);
        partsAre(p, "pass a c coin 2 at 1,pass c b coin 2 at 399", -1);
        partsAre(p, "pass a b coin 3 at 1", -2);
        partsAre(p, "pass c b coin 2 at 1", -2);
        for (int thing = 0; thing < 6; thing++) {
            partsAre(p, p + ",gift g h " + THINGS[thing] + " 1 at 0", -2);
            partsAre(p, p + ",gift g h " + THINGS[thing] + " 1 at 0,gift h g " + THINGS[thing] + " 1 at 399", -1);
        }
        partsAre("choice a {times 0 {" + p + "}} or {" + p + "}", p, -2);
        LoanNames y = s.bundled(p);
        y.honest();
        y.clear();
        s.due("from the empty one", y.parts(0), -2);
        y.family(1, 0);
        s.due("within a FAMILY", y.parts(0), -1);
        s.of("else the least EVENT by which alone one is; none.");
        String[] events = {"dies", "rain", "war", "dear", "flood"};
        for (int event = 0; event < 5; event++) {
            partsAre(p, p + ",if " + events[event] + " {gift a b mule 1 at 0}", event);
            partsAre(p + ",if " + events[event] + " {gift a b mule 1 at 0}", p + ",if flood {gift a b cloth 1 at 0}", event);
        }
        partsAre("if dies {if rain {" + p + "}}", "times 0 {" + p + "}", -1);
        partsAre("if rain {" + p + "} else {" + p + "," + p + "}", p + "," + p, 1);
        partsAre("choice a {" + p + "} or {gift a c mule 1 at 1}", p, -1);
        partsAre("choice a {" + p + "} or {if rain {gift a c mule 1 at 1}}", p, -1);
        partsAre(p + ",if war {" + p + "," + p + "}", p + ",if rain {times 2 {if war {" + p + "}}},if war {times 2 {" + p + "}}", -1);
    }

    private void heap(int n, int want, String... deals) {
        LoanNames x = s.told(deals);
        s.due("heaps by " + n + " of " + String.join(" / ", deals), x.heap(n, -1), want);
    }

    private void heaps() {
        s.of("HEAP by n days: two DEALS hang together, if SIGNED at most n DAYS apart");
        LoanNames x = new LoanNames();
        Check.deal(x, "gift a b mule 1 at 0", 399);
        Check.deal(x, "gift a b mule 1 at 300", 0);
        s.due("398 days", x.heap(398, -1), 2);
        s.due("399 days", x.heap(399, -1), 1);
        s.due("more days than there are", x.heap(Integer.MAX_VALUE, -1), 1);
        heap(0, 1, "gift a b mule 1 at 0", "gift a b mule 1 at 300");
        s.of("and some LEAF of each is of the same THING but coin");
        for (int thing = 0; thing < 6; thing++) {
            for (int other = 0; other < 6; other++) {
                heap(0, thing == other && thing > 0 ? 1 : 2, "gift a b " + THINGS[thing] + " 1 at 0", "gift a b " + THINGS[other] + " 1 at 0");
            }
        }
        heap(0, 2, "sale a b mule 1 for 1 at 0", "sale a b cloth 1 for 1 at 0");
        heap(0, 1, "gift a b coin 1 at 0,gift a b grain 0 at 0", "times 0 {hire a c grain 1 for 1 at 0 back 0}");
        s.of("and they have a FAMILY in common (of their HANDS in LEAVES);");
        heap(0, 2, "gift a b mule 1 at 0", "gift c d mule 1 at 0");
        heap(0, 1, "gift a b mule 1 at 0", "gift c b mule 1 at 0");
        heap(0, 1, "gift a b mule 1 at 0", "gift c a mule 1 at 0");
        heap(0, 1, "gift a b mule 1 at 0,pass a h coin 1 at 0", "gift c d mule 1 at 0,pass h d coin 1 at 0");
        heap(0, 2, "choice c {gift a b mule 1 at 0}", "choice a {gift c d mule 1 at 0}");
        LoanNames y = s.told("gift a b mule 1 at 0", "gift c d mule 1 at 0");
        y.family(3, 0);
        s.due("by a FAMILY that is told", y.heap(0, -1), 1);
        y.family(0, 3);
        s.due("and no more", y.heap(0, -1), 2);
        s.of("so do those that hang on them.");
        LoanNames chain = new LoanNames();
        int[] days = {0, 9, 3, 6, 12};
        for (int day : days) {
            Check.deal(chain, "gift a b mule 1 at 0", day);
        }
        s.due("each on the next", chain.heap(3, -1), 1);
        s.due("none", chain.heap(2, -1), 5);
        heap(0, 1, "gift a b mule 1 at 0", "gift c d cloth 1 at 0", "gift b c mule 1 at 0,gift b c cloth 1 at 0");
        heap(0, 3, "gift a b mule 1 at 0", "gift c d mule 1 at 0", "gift e f mule 1 at 0");
    }

    private void groups() {
        s.of("Each GROUP is told by its least DEAL;");
        LoanNames x = s.told("gift g h mule 1 at 0", "gift a b mule 1 at 0", "gift c d mule 1 at 0", "gift h e mule 1 at 0", "gift d a mule 1 at 0");
        int[] least = {0, 1, 1, 0, 1};
        for (int deal = 0; deal < 5; deal++) {
            s.due("GROUP of " + deal, x.heap(0, deal), least[deal]);
        }
        String[] all = new String[24];
        java.util.Arrays.fill(all, "gift a b mule 1 at 0");
        LoanNames full = s.told(all);
        s.due("GROUP of the last of all", full.heap(0, 23), 0);
        s.due("one GROUP", full.heap(0, -1), 1);
        java.util.Arrays.fill(all, "gift a b coin 1 at 0");
        s.due("as many GROUPS as can be", s.told(all).heap(0, -1), 24);
        s.due("the last one", s.told(all).heap(0, 23), 23);
        s.of("its LOAN, if it's of 6 at most and LOOKED at (in the order of numbers).");
        LoanNames y = new LoanNames();
        Check.deal(y, "gift a b mule 0 at 0," + LOAN, 0);
        for (int deal = 1; deal < 6; deal++) {
            Check.deal(y, "gift a b mule 0 at 0", 0);
        }
        Check.deal(y, "gift a b mule 0 at 0", 9);
        s.due("of six", y.group(8, 5), 1);
        s.due("of the seventh alone", y.group(8, 6), -1);
        s.due("of seven", y.group(9, 0), -1);
        String three = Check.repeat("choice c {gift a b cloth 0 at 0}", 3, ",");
        LoanNames z = new LoanNames();
        Check.deal(z, LOAN + "," + three, 0);
        Check.deal(z, "choice c {gift a b cloth 0 at 0},choice c {gift a b cloth 0 at 0}", 1);
        Check.deal(z, three, 2);
        Check.deal(z, "choice c {gift a b cloth 0 at 0}", 4);
        s.due("LOOKED at", z.group(1, 2), 1);
        s.due("not LOOKED at", z.group(2, 2), -1);
        LoanNames parted = s.told("choice a {gift a b mule 1 at 0}", "pass a b coin 1 at 0,gift b a mule 1 at 0",
            "choice b {pass b a coin 2 at 1} or {pass b a coin 3 at 1},gift a b mule 0 at 0");
        s.due("no LOAN by each CODE", parted.group(0, 1), -1);
    }

    private void constants() {
        s.of("The constants:");
        s.of("There is none.");
        s.due("NONE", LoanNames.NONE, -1);
    }
}
