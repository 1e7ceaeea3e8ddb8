/** Promises 1 to 7: a new object, FAMILIES, the tape, texts and their FAULTS. */
public final class TextsToldTest {
    private static final Check CHECK = new Check();
    private static final String GIFT = "gift a b mule 1 at 1";
    private static final int BLANKS = 0x20202020;

    public static void main(String[] args) {
        newObject();
        families();
        tape();
        dealsTold();
        lawsAndWordsTold();
        faultsAreKept();
        dealFaults();
        dealTextsThatAreWell();
        limitsOfDeals();
        ruleFaults();
        ruleTextsThatAreWell();
        CHECK.end();
    }

    private static void due(String what, long got, long want) {
        CHECK.due(what, got, want);
    }

    private static void newObject() {
        LoanNames x = new LoanNames();
        for (int what = 0; what < 10; what++) {
            due("count " + what + " of a new object", x.count(what), 0);
        }
        due("fault of a new object", x.fault(), -1);
        due("codes of no DEALS", x.codes(), 1);
        due("loan of no DEALS", x.loan(), -1);
        due("step of no DEALS", x.step(), -1);
        due("lends of no DEALS", x.lends(0, 1), 0);
        due("breach without a LAW", x.breach(0), -1);
        due("rows of no DEALS", x.passed(31, -1, 0), 0);
        due("row of no DEALS", x.passed(0, 0, 0), -1);
        due("net of no DEALS", x.net(0, 7, 5, 9999), 0);
        due("sly of none", x.sly(6, 0), 0);
        due("sly set of none", x.sly(6, 1), -1);
        due("stop of none", x.stop(6), 0);
        due("heaps of none", x.heap(0, -1), 0);
        due("NONE", LoanNames.NONE, -1);
    }

    private static void families() {
        LoanNames x = Check.bundled("pass a b coin 3 at 0");
        due("families at first", x.size(0, 4), 3);
        for (int[] bad : new int[][] {{-1, 0}, {8, 0}, {0, -1}, {0, 8}, {Integer.MIN_VALUE, 0}, {0, Integer.MAX_VALUE}}) {
            CHECK.due("family " + bad[0] + " " + bad[1], x.family(bad[0], bad[1]), false);
        }
        CHECK.due("family 7 7", x.family(7, 7), true);
        CHECK.due("family 1 6", x.family(1, 6), true);
        due("families then", x.size(0, 4), 1 + 64);
        due("net of the FAMILY", x.net(0, 6, 0, -1), 3);
        due("net of the one left", x.net(0, 1, 0, -1), 0);
        CHECK.due("family 0 6", x.family(0, 6), true);
        due("net within a FAMILY", x.net(0, 6, 0, 0), 0);
    }

    private static void tape() {
        LoanNames x = new LoanNames();
        for (int i = 1; i <= 30; i++) {
            due("feed " + i, x.feed(BLANKS, BLANKS, BLANKS, BLANKS, BLANKS), 20 * i);
        }
        due("feed beyond 600", x.feed(0, 0, 0, 0, 0), -1);
        due("bytes", x.count(9), 600);
        due("601 bytes", x.deal(601, 0), -2);
        due("600 blanks", x.deal(600, 0), -1);
        due("fault behind 600 blanks", x.fault(), 600);
        due("bytes then", x.count(9), 0);
        // The highest byte first, and bytes above 127 begin no token.
        x.feed(0x62617220, 0x616e793b, 0x20202020, 0xff616e79, 0x3b202020);
        due("law in bytes", x.law(12), 0);
        x.feed(0x62617220, 0x616e793b, 0x20202020, 0xff616e79, 0x3b202020);
        due("law with byte 255", x.law(20), -1);
        due("fault at byte 255", x.fault(), 12);
    }

    private static void dealsTold() {
        LoanNames x = new LoanNames();
        Check.feed(x, GIFT);
        due("n below 0", x.deal(-1, 0), -2);
        due("n above", x.deal(21, 0), -2);
        due("DAY below 0", x.deal(20, -1), -2);
        due("DAY above 399", x.deal(20, 400), -2);
        due("bytes as they were", x.count(9), 20);
        due("first", x.deal(20, 399), 0);
        due("its DAY", x.size(0, 3), 399);
        due("bytes then", x.count(9), 0);
        Check.feed(x, GIFT + ", nonsense");
        due("the first bytes alone", x.deal(20, 0), 1);
        due("all bytes are gone", x.count(9), 0);
        for (int i = 2; i < 24; i++) {
            due("deal " + i, Check.deal(x, GIFT), i);
        }
        due("the 25th", Check.deal(x, GIFT), -3);
        due("bytes are left", x.count(9), 20);
        due("the 25th, wrong", x.deal(999, 0), -2);
        due("the 25th, no DAY", x.deal(20, 400), -2);
        due("a FAULT then", x.deal(3, 0), -3);
        due("deals", x.count(0), 24);
    }

    private static void lawsAndWordsTold() {
        LoanNames x = new LoanNames();
        for (int i = 0; i < 6; i++) {
            due("law", Check.law(x, Check.repeat("bar any;", i, "")), i);
            due("statements in force", x.count(2), i);
        }
        due("the 7th law", Check.law(x, "bar any;"), -3);
        due("the 7th law, wrong", x.law(21), -2);
        due("law below 0", x.law(-1), -2);
        due("bytes are left", x.count(9), 20);
        due("the word", x.word(8), 0);
        for (int i = 1; i < 12; i++) {
            due("word", Check.word(x, "bar any;"), i);
        }
        due("the 13th word", Check.word(x, "bar any;"), -3);
        due("the 13th word, wrong", x.word(-1), -2);
        due("laws", x.count(1), 6);
        due("words", x.count(3), 12);
        LoanNames y = new LoanNames();
        Check.law(y, "bar any;");
        due("a law with a FAULT", Check.law(y, "bar gift; bar"), -1);
        due("the law before it is in force", y.count(2), 1);
        due("laws then", y.count(1), 1);
    }

    private static void faultsAreKept() {
        LoanNames x = new LoanNames();
        due("fault", Check.deal(x, "pass a"), -1);
        due("its place", x.fault(), 6);
        due("no such deal", x.deal(1, 0), -2);
        due("its place still", x.fault(), 6);
        due("law", x.law(0), 0);
        due("none then", x.fault(), -1);
        due("word", x.word(0), -1);
        due("its place", x.fault(), 0);
        due("deal", Check.deal(x, GIFT), 0);
        due("none then", x.fault(), -1);
    }

    private static void fault(String text, int place) {
        LoanNames x = new LoanNames();
        due("deal " + text, Check.deal(x, text), -1);
        due("fault of " + text, x.fault(), place);
        due("deals after " + text, x.count(0), 0);
    }

    private static void dealFaults() {
        fault("", 0);
        fault("  \n", 3);
        fault("Pass a b coin 1 at 1", 0);
        fault("passa b coin 1 at 1", 0);
        fault("pass\ta b coin 1 at 1", 4);
        fault("passz a b coin 1 at 1", 0);
        fault("pass a bz coin 1 at 1", 7);
        fault("pass ab coin 1 at 1", 5);
        fault("pass coin 1 at 1", 5);
        fault("pass a coin 1 at 1", 7);
        fault("pass a bcoin 1 at 1", 7);
        fault("pass a b coin x at 1", 14);
        fault("pass a b coin -1 at 1", 14);
        fault("pass a b coin 00001 at 1", 14);
        fault("pass a b coin 1 for 1 at 1", 16);
        fault("pass a b coin 1 at 1 paid 2", 21);
        fault("gift a b coin 1 at 1 back 2", 21);
        fault("sale a b coin 1 for 1 at 1 back 2", 27);
        fault("sale a b coin 1 for 10000 at 1", 20);
        fault("sale a b coin 1 for 1 at 7 paid 400", 32);
        fault("hire a b coin 1 for 1 at 7 back 6", 32);
        fault("hire a b coin 1 for 1 at 7 paid 8", 27);
        fault("hire a b coin 1 for 1 at 7 back", 31);
        fault(GIFT + ",,", 21);
        fault(GIFT + " " + GIFT, 21);
        fault(GIFT + ", {", 22);
        fault("after {", 6);
        fault("after 00005 {", 6);
        fault("times 1 {}", 9);
        fault("times 0001 {" + GIFT, 32);
        fault("if rain {" + GIFT + "} or {" + GIFT + "}", 31);
        fault("choice a {" + GIFT + "} else {" + GIFT + "}", 32);
        fault("choice a {" + GIFT + "} or " + GIFT, 35);
        fault("if rain {" + GIFT + "} else {" + GIFT + "} else {" + GIFT + "}", 59);
        fault("after 1 {" + GIFT + "} else {" + GIFT + "}", 31);
        fault("if a {", 3);
        fault("choice ab {", 7);
        fault(GIFT + "}", 20);
        fault(GIFT + " \n ;", 23);
        fault("bar any;", 0);
        fault("pass a b coin 1 at 1\0", 20);
    }

    private static void dealTextsThatAreWell() {
        LoanNames x = new LoanNames();
        due("blanks", Check.deal(x, " \n gift\na b mule 1 at 1 \n"), 0);
        due("tokens close by", Check.deal(x, "sale a b mule1for2at3paid4,times9{gift h g grain0at0}"), 1);
        due("its number", x.leaf(1, 0, 5), 2);
        due("its DAY", x.leaf(1, 0, 7), 4);
        due("four digits", Check.deal(x, "sale a b mule 0009 for 9999 at 0399 paid 0399"), 2);
        due("much", x.leaf(2, 0, 4), 9);
        due("for", x.leaf(2, 0, 5), 9999);
        due("paid on the same DAY", x.leaf(2, 0, 7), 399);
        due("back on the same DAY", Check.deal(x, "hire a b mule 1 for 0 at 5 back 5"), 3);
    }

    private static void limitsOfDeals() {
        LoanNames x = new LoanNames();
        String six = "after 1{times 2{if rain{choice a{after 1{times 1{pass a b coin 1 at 1}}}}}}";
        due("six open", Check.deal(x, six), 0);
        due("six open, and again", Check.deal(x, six + "," + six), 1);
        fault("after 1{" + six + "}", 56);
        String gift = "gift a b mule 1 at 1";
        due("twelve LEAVES", Check.deal(x, Check.repeat(gift, 12, ",")), 2);
        fault(Check.repeat(gift, 12, ",") + ",after 1{" + gift + "}", 12 * 21 + 8);
        fault(Check.repeat(gift, 12, ",") + ",after 1{if", 12 * 21 + 10);
        fault(Check.repeat(gift, 12, ",") + ",nothing", 12 * 21);
        String choice = "choice a{" + gift + "}";
        due("three choices", Check.deal(x, Check.repeat(choice, 3, ",")), 3);
        fault("choice b{" + Check.repeat(choice, 3, ",") + "}", 9 + 2 * (choice.length() + 1));
        due("choices are counted anew", Check.deal(x, Check.repeat(choice, 3, ",")), 4);
    }

    private static void ruleFault(String text, int place) {
        LoanNames x = new LoanNames();
        due("law " + text, Check.law(x, text), -1);
        due("fault of law " + text, x.fault(), place);
        due("word " + text, Check.word(x, text), -1);
        due("fault of word " + text, x.fault(), place);
    }

    private static void ruleFaults() {
        ruleFault("bar gift", 8);
        ruleFault("bar gift of", 11);
        ruleFault("bar gift of mules;", 12);
        ruleFault("bar gift back;", 9);
        ruleFault("bar gift then;", 13);
        ruleFault("bar gift then hire within 3 back;", 28);
        ruleFault("bar gift then hire within;", 25);
        ruleFault("bar gift then hire within 10000;", 26);
        ruleFault("bar gift then hire back of mule;", 24);
        ruleFault("bar gift then hire then hire;", 19);
        ruleFault("bar any; gift", 9);
        ruleFault(";", 0);
        ruleFault("bar any;;", 8);
        ruleFault("bar any,", 7);
        ruleFault("barany;", 0);
        ruleFault(GIFT, 0);
        LoanNames x = new LoanNames();
        due("seventeen in a law", Check.law(x, Check.repeat("bar any;", 17, " ")), -1);
        due("fault of the seventeenth", x.fault(), 16 * 9);
        due("a word without a statement", Check.word(x, "   "), -1);
        due("its fault", x.fault(), 3);
    }

    private static void ruleTextsThatAreWell() {
        LoanNames x = new LoanNames();
        due("all there is", Check.law(x, "bar any of coin then sale of grain back same more within 9999;"), 0);
        due("again and in any order", Check.law(x, "bar any then any more back more same same;"), 1);
        due("blanks alone", Check.law(x, " \n "), 2);
        due("statements of it", x.count(2), 0);
        due("sixteen", Check.law(x, Check.repeat("bar any;", 16, "\n")), 3);
        due("statements of it", x.count(2), 16);
        due("twelve in a word", Check.word(x, Check.repeat("bar any;", 12, "")), 0);
        due("thirteen in a word", Check.word(x, Check.repeat("bar any;", 13, "")), -1);
        due("fault of the thirteenth", x.fault(), 96);
        due("within 0", Check.word(x, "bar gift then gift within 0000;"), 1);
    }
}
