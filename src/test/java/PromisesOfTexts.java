import java.nio.charset.StandardCharsets;

/** Promises 1 to 11: a new object, FAMILIES, the tape, DEALS, LAWS and WORDS told, and what is asked of a DEAL alone. */
final class PromisesOfTexts {
    private static final String GIFT = "gift a b mule 1 at 1";
    private static final int BLANKS = 0x20202020;

    private final Sentences s;

    PromisesOfTexts(Sentences s) {
        this.s = s;
    }

    void hold() {
        newObject();
        family();
        feed();
        deal();
        law();
        word();
        fault();
        size();
        leaf();
        plain();
        same();
    }

    private void newObject() {
        s.under("Promise 1: A new object");
        s.of("No DEALS, LAWS.");
        LoanNames x = new LoanNames();
        for (int what = 0; what < 10; what++) {
            s.due("count " + what, x.count(what), 0);
        }
        s.due("fault", x.fault(), -1);
        s.due("size of the first", x.size(0, 0), -1);
        s.due("the first added", x.add(0), -1);
        s.due("rows", x.passed(31, -1, 0), 0);
        s.due("the first row", x.passed(0, 0, 0), -1);
        s.due("net", x.net(0, 7, 5, 9999), 0);
        s.due("codes", x.codes(), 1);
        s.due("loan", x.loan(), -1);
        s.due("breach", x.breach(0), -1);
        s.due("bars", x.bars(0), -1);
        s.due("sly", x.sly(6, 0), 0);
        s.due("stop", x.stop(6), 0);
        s.due("honest", x.honest(), -1);
        s.due("heaps", x.heap(0, -1), 0);
        // What one object is told is told to no other one.
        LoanNames other = s.bundled(GIFT);
        other.family(0, 7);
        Check.law(other, "bar any;");
        s.due("still none", x.count(0) + x.count(1), 0);
        s.due("another's FAMILIES", s.well(GIFT).size(0, 4), 3);
    }

    private void family() {
        s.under("Promise 2: family");
        s.of("A HAND is of a FAMILY from now on: true;");
        LoanNames x = s.well("pass a b coin 3 at 0");
        for (int hand = 0; hand < 8; hand++) {
            for (int family = 0; family < 8; family++) {
                s.due("family " + hand + " " + family, x.family(hand, family), true);
            }
        }
        s.due("all are of the last", x.size(0, 4), 128);
        x.family(1, 0);
        s.due("the latest counts", x.net(0, 0, 0, -1), 3);
        x.family(0, 0);
        s.due("both of it", x.net(0, 0, 0, -1), 0);
        x.family(1, 1);
        s.due("and back", x.net(0, 1, 0, -1), 3);
        s.of("false: none such.");
        String before = Sentences.state(x);
        s.each("of HAND", hand -> x.family(hand, 0) ? 1 : 0, 0, -1, 8);
        s.each("of FAMILY", family -> x.family(0, family) ? 1 : 0, 0, -1, 8);
        s.due("neither", x.family(8, 8), false);
        s.due("all", Sentences.state(x), before);
    }

    private static int feed(LoanNames x, byte[] bytes) {
        int[] n = Check.numbers(bytes);
        return x.feed(n[0], n[1], n[2], n[3], n[4]);
    }

    private void feed() {
        s.under("Promise 3: feed");
        s.of("Twenty bytes come behind those on the tape, of each number the highest first: how many there are.");
        LoanNames x = new LoanNames();
        s.due("twenty", x.feed(0x67696674, 0x20612062, 0x206d756c, 0x65203120, 0x61742031), 20);
        s.due("twenty more", x.feed(0x322c6769, 0x66742061, 0x2062206d, 0x756c6520, 0x33206174), 40);
        s.due("and more", x.feed(0x20340000, 0, 0, 0, 0), 60);
        s.due("of them", x.deal(42, 0), 0);
        s.due("DAY in two feeds", x.leaf(0, 0, 6), 12);
        s.due("the second", x.leaf(0, 1, 4), 3);
        // Each byte of each place of each number, 255 first and last, is there as it came.
        for (int place = 0; place < 20; place++) {
            byte[] bytes = new byte[20];
            java.util.Arrays.fill(bytes, (byte) ' ');
            bytes[place] = (byte) 255;
            s.due("with 255", feed(x, bytes), 20);
            s.due("none", x.law(20), -1);
            s.due("its place", x.fault(), place);
        }
        s.due("below 0", x.feed(-1, -1, -1, -1, -1), 20);
        s.due("the last byte", x.count(9), 20);
        LoanNames y = new LoanNames();
        for (int i = 1; i < 30; i++) {
            s.due("feed " + i, y.feed(BLANKS, BLANKS, BLANKS, BLANKS, BLANKS), 20 * i);
        }
        s.due("up to 600", feed(y, GIFT.getBytes(StandardCharsets.ISO_8859_1)), 600);
        s.of("NONE, doing nothing: there would be more than 600.");
        String before = Sentences.state(y);
        s.due("20 more", y.feed(0, 0, 0, 0, 0), -1);
        s.due("20 more again", y.feed(BLANKS, BLANKS, BLANKS, BLANKS, BLANKS), -1);
        s.due("all", Sentences.state(y), before);
        s.due("they are there still", y.deal(600, 0), 0);
        s.due("to the last byte", y.leaf(0, 0, 6), 1);
        s.due("then there's room", y.feed(0, 0, 0, 0, 0), 20);
    }

    private void deal() {
        s.under("Promise 4: deal");
        s.of("The first n bytes of the tape (which is empty then) are a DEAL, SIGNED on a DAY: its number.");
        LoanNames x = new LoanNames();
        Check.feed(x, GIFT + "2");
        s.due("by 21 bytes", x.deal(21, 399), 0);
        s.due("its DAY", x.leaf(0, 0, 6), 12);
        s.due("SIGNED", x.size(0, 3), 399);
        s.due("empty", x.count(9), 0);
        Check.feed(x, GIFT + "2, nonsense");
        s.due("by 20 bytes", x.deal(20, 0), 1);
        s.due("its DAY", x.leaf(1, 0, 6), 1);
        s.due("SIGNED", x.size(1, 3), 0);
        s.due("empty of what is behind, too", x.count(9), 0);
        s.of("NONE: a FAULT;");
        Check.feed(x, GIFT + "," + GIFT);
        s.due("none", x.deal(21, 0), -1);
        s.due("deals", x.count(0), 2);
        s.due("empty then, too", x.count(9), 0);
        s.due("of no bytes", x.deal(0, 0), -1);
        s.due("its place", x.fault(), 0);
        s.due("the next number", Check.deal(x, GIFT), 2);
        // What was read of a text with a FAULT isn't there in the next one.
        LoanNames y = new LoanNames();
        for (int round = 0; round < 2; round++) {
            String open = "after 3 {times " + 9 * round + " {if war {choice a {choice b {choice c {" + Check.repeat(GIFT, 12, ",");
            s.due("none", Check.deal(y, open + ";"), -1);
            s.due("its place", y.fault(), open.length());
            s.due("well", Check.deal(y, "hire c d coin 1 for 2 at 5 back 6"), round);
            int[] want = {1, 0, 0, 0, 4 + 8, 1};
            for (int what = 0; what < 6; what++) {
                s.due("size, what " + what, y.size(round, what), want[what]);
            }
            s.due("at", y.leaf(round, 0, 6), 5);
            s.due("STEPS", y.plain(round, 0), 0);
            s.due("LEAVES left", y.plain(round, 1), 1);
            y.clear();
            y.add(round);
            s.rows(y, 0, 3);
            s.row(y, 31, 2, 6, 3, 2, 0, 2);
            s.due("lends", y.lends(2, 3), 1);
            s.due("LOAN as HONEST", y.innocent(y.honest(), 1), 23);
        }
        s.due("the SAME", y.same(0, 1), -1);
        s.of("-2, doing nothing: n is below 0 or more than there are, no DAY;");
        Check.deal(x, "gift a");
        Check.feed(x, GIFT);
        String before = Sentences.state(x);
        s.each("n", n -> x.deal(n, 0), -2, -1, 21, 600, 601);
        s.each("DAY", day -> x.deal(20, day), -2, -1, 400);
        s.due("both", x.deal(-1, -1), -2);
        s.due("all", Sentences.state(x), before);
        s.due("as many as there are", x.deal(20, 399), 3);
        s.due("one more than none", x.deal(1, 0), -2);
        s.of("-3, doing nothing: 24 are there.");
        for (int deal = 4; deal < 24; deal++) {
            s.due("deal", Check.deal(x, GIFT, deal), deal);
        }
        Check.feed(x, GIFT);
        before = Sentences.state(x);
        s.due("the 25th", x.deal(20, 0), -3);
        s.due("with a FAULT", x.deal(19, 0), -3);
        s.due("of no bytes", x.deal(0, 0), -3);
        s.due("all", Sentences.state(x), before);
        s.due("bytes are left for a LAW", x.law(0), 0);
    }

    private void law() {
        s.under("Promise 5: law");
        s.of("Likewise a LAW: its number.");
        LoanNames x = s.bundled(GIFT);
        Check.feed(x, "bar any;bar gift");
        s.due("by 8 bytes", x.law(8), 0);
        s.due("its statements", x.count(2), 1);
        s.due("empty of what is behind, too", x.count(9), 0);
        Check.feed(x, "bar any;bar gift");
        s.due("none", x.law(16), -1);
        s.due("its place", x.fault(), 16);
        s.due("laws", x.count(1), 1);
        s.due("empty then, too", x.count(9), 0);
        // What was read of a text with a FAULT isn't there in the next one.
        LoanNames y = s.bundled("sale a b mule 1 for 1 at 0", "gift a b grain 1 at 9");
        s.due("none", Check.law(y, "bar any of coin then any of coin back same more within 3;bar any;bar"), -1);
        s.due("none in force", y.count(2), 0);
        s.due("a LAW", Check.law(y, "bar any then any;"), 0);
        s.due("one statement", y.count(2), 1);
        s.due("without ties", y.breach(2), 1);
        Check.feed(x, "bar any;");
        String before = Sentences.state(x);
        s.each("n", x::law, -2, -1, 21, 600, 601);
        s.due("all", Sentences.state(x), before);
        s.due("of no bytes", x.law(0), 1);
        s.due("nothing is left for one more", x.law(1), -2);
        s.of("-3: 6 are there.");
        for (int law = 2; law < 6; law++) {
            s.due("law", Check.law(x, "bar any;"), law);
        }
        Check.feed(x, "bar pass;");
        before = Sentences.state(x);
        s.due("the 7th", x.law(9), -3);
        s.due("with a FAULT", x.law(8), -3);
        s.due("all", Sentences.state(x), before);
        s.due("bytes are left for a WORD", x.word(9), 0);
    }

    private void word() {
        s.under("Promise 6: word");
        s.of("Likewise a WORD: its number.");
        LoanNames x = s.bundled(GIFT);
        Check.feed(x, "bar any;bar gift");
        s.due("by 8 bytes", x.word(8), 0);
        s.due("it bars", x.bars(0), 1);
        s.due("empty of what is behind, too", x.count(9), 0);
        Check.feed(x, "bar any;bar gift");
        s.due("none", x.word(16), -1);
        s.due("its place", x.fault(), 16);
        s.due("words", x.count(3), 1);
        s.due("empty then, too", x.count(9), 0);
        LoanNames y = s.bundled("sale a b mule 1 for 1 at 0", "gift a b grain 1 at 9");
        s.due("none", Check.word(y, "bar any of coin then any of coin back same more within 3;bar any;bar"), -1);
        s.due("a WORD", Check.word(y, "bar any then any;"), 0);
        s.due("without ties", y.bars(0), 1);
        s.due("none", Check.word(y, "bar any;bar any;bar"), -1);
        s.due("a WORD", Check.word(y, "bar hire;"), 1);
        s.due("of one statement", y.bars(1), 0);
        Check.feed(x, "bar any;");
        String before = Sentences.state(x);
        s.each("n", x::word, -2, -1, 21, 600, 601);
        s.due("all", Sentences.state(x), before);
        s.due("of no bytes", x.word(0), -1);
        s.due("nothing is left for one more", x.word(1), -2);
        s.of("-3: 12 are there.");
        for (int word = 1; word < 12; word++) {
            s.due("word", Check.word(x, "bar any;"), word);
        }
        Check.feed(x, "bar pass;");
        before = Sentences.state(x);
        s.due("the 13th", x.word(9), -3);
        s.due("with a FAULT", x.word(8), -3);
        s.due("all", Sentences.state(x), before);
        s.due("bytes are left for a LAW", x.law(9), 0);
    }

    private void fault() {
        s.under("Promise 7: fault");
        s.of("The FAULT's place of the latest deal(), law(), word() that was a number or NONE;");
        LoanNames x = new LoanNames();
        s.due("none yet", x.fault(), -1);
        for (int round = 0; round < 2; round++) {
            Check.deal(x, "gift a a");
            s.due("of a DEAL", x.fault(), 7);
            Check.law(x, "bar gift of dies;");
            s.due("of a LAW", x.fault(), 12);
            Check.word(x, "");
            s.due("of a WORD", x.fault(), 0);
        }
        Check.deal(x, "gift a a");
        s.due("-2", x.deal(1, 0) + x.law(-1) + x.word(1), -6);
        s.due("goes by", x.fault(), 7);
        for (int i = 0; i < 600 / 20; i++) {
            x.feed(BLANKS, BLANKS, BLANKS, BLANKS, BLANKS);
        }
        s.due("600 blanks", x.deal(600, 0), -1);
        s.due("behind them all", x.fault(), 600);
        LoanNames full = new LoanNames();
        for (int law = 0; law < 6; law++) {
            Check.law(full, "");
        }
        Check.word(full, "bar");
        s.due("-3", Check.law(full, "x"), -3);
        s.due("goes by, too", full.fault(), 3);
        s.of("NONE: it had none.");
        Check.deal(x, GIFT);
        s.due("a DEAL had none", x.fault(), -1);
        Check.deal(x, "gift");
        Check.law(x, "");
        s.due("a LAW had none", x.fault(), -1);
        Check.deal(x, "gift");
        Check.word(x, "bar any;");
        s.due("a WORD had none", x.fault(), -1);
    }

    private void sizes(LoanNames x, int deal, int... want) {
        for (int what = 0; what < 6; what++) {
            s.due("size of " + deal + ", what " + what, x.size(deal, what), want[what]);
        }
    }

    private void size() {
        s.under("Promise 8: size");
        s.of("Of a DEAL: 0 LEAVES, 1 CHOICES, 2 EVENTS named (bits), 3 DAY SIGNED, 4 FAMILIES of its LEAVES' HANDS (bits), 5 THINGS "
            + "(bits).");
        LoanNames x = new LoanNames();
        Check.deal(x, "gift a h mule 0 at 0", 7);
        Check.deal(x, "choice f {sale b c grain 1 for 1 at 0} or {choice g {times 0 {if flood {hire b d coin 1 for 1 at 0 back 0}}}},"
            + "if dies {choice f {gift b c mule 1 at 0}} else {if dies {gift d c work 1 at 0}}", 399);
        String all = "if dies{pass a b coin 1 at 0},if rain{pass c d mule 1 at 0},if war{pass e f cloth 1 at 0},"
            + "if dear{pass g h house 1 at 0},if flood{pass a b work 1 at 0},pass a b grain 1 at 0,"
            + Check.repeat("pass a b coin 1 at 0", 6, ",");
        Check.deal(x, all);
        sizes(x, 0, 1, 0, 0, 7, 1 + 128, 2);
        sizes(x, 1, 4, 3, 1 + 16, 399, 2 + 4 + 8, 1 + 2 + 16 + 32);
        sizes(x, 2, 12, 0, 31, 0, 255, 63);
        x.family(7, 0);
        sizes(x, 0, 1, 0, 0, 7, 1, 2);
        s.of("NONE: none such.");
        s.each("DEAL", deal -> x.size(deal, 0), -1, -1, 3, 23, 24);
        s.each("what", what -> x.size(0, what), -1, -1, 6, 7);
    }

    private void leaves(LoanNames x, int deal, int k, int... want) {
        for (int what = 0; what < 8; what++) {
            s.due("leaf " + k + " of " + deal + ", what " + what, x.leaf(deal, k, what), want[what]);
        }
    }

    private void leaf() {
        s.under("Promise 9: leaf");
        s.of("Of a LEAF of a DEAL: 0 its FORM (0 pass, 1 gift, 2 sale, 3 hire), 1, 2 HANDS, 3 THING, 4 how much, 5 \"for\" (0), "
            + "6 \"at\" with all \"after\", 7 \"paid\", \"back\" likewise (\"at\" without).");
        LoanNames x = s.told("pass a h coin 0 at 0,after 10 {gift h a grain 9999 at 399,after 20 {sale b c work 3 for 4 at 5 paid 6,"
            + "sale b c work 3 for 9999 at 5},times 9 {hire c d house 7 for 8 at 9 back 10}},hire c d house 7 for 0 at 0 back 399",
            "after 399{".repeat(6) + "hire a b coin 1 for 1 at 398 back 399" + "}".repeat(6), Check.repeat(GIFT, 11, ",") + ",pass b a coin 1 at 0");
        leaves(x, 0, 0, 0, 0, 7, 0, 0, 0, 0, 0);
        leaves(x, 0, 1, 1, 7, 0, 5, 9999, 0, 409, 409);
        leaves(x, 0, 2, 2, 1, 2, 4, 3, 4, 35, 36);
        leaves(x, 0, 3, 2, 1, 2, 4, 3, 9999, 35, 35);
        leaves(x, 0, 4, 3, 2, 3, 3, 7, 8, 19, 20);
        leaves(x, 0, 5, 3, 2, 3, 3, 7, 0, 0, 399);
        leaves(x, 1, 0, 3, 0, 1, 0, 1, 1, 6 * 399 + 398, 7 * 399);
        leaves(x, 2, 11, 0, 1, 0, 0, 1, 0, 0, 0);
        x.family(1, 5);
        s.due("a HAND, not its FAMILY", x.leaf(1, 0, 2), 1);
        s.of("NONE: none such.");
        s.each("DEAL", deal -> x.leaf(deal, 0, 0), -1, -1, 3, 23, 24);
        s.each("LEAF", k -> x.leaf(0, k, 0), -1, -1, 6, 11, 12);
        s.each("LEAF of a full one", k -> x.leaf(2, k, 0), -1, -1, 12, 13);
        s.each("what", what -> x.leaf(0, 0, what), -1, -1, 8, 9);
        s.each("what of the last", what -> x.leaf(2, 11, what), -1, -1, 8, 9);
    }

    private void plain() {
        s.under("Promise 10: plain");
        s.of("PLAIN: STEPS (what 0), LEAVES left (1).");
        LoanNames x = s.told("times 0 {after 0 {" + GIFT + "," + GIFT + "}},times 1 {" + GIFT + "}", GIFT + "," + GIFT,
            "times 0 {" + GIFT + "}", GIFT + "," + GIFT, GIFT);
        s.due("STEPS", x.plain(0, 0), 3);
        s.due("LEAVES left", x.plain(0, 1), 1);
        s.due("no STEPS", x.plain(1, 0), 0);
        s.due("all LEAVES", x.plain(1, 1), 2);
        s.due("no LEAVES", x.plain(2, 1), 0);
        s.due("one LEAF behind two", x.plain(4, 1), 1);
        s.due("asking changes no DEAL", x.size(0, 0), 3);
        s.due("asked again", x.plain(0, 0), 3);
        s.of("NONE: none such.");
        s.each("DEAL", deal -> x.plain(deal, 0), -1, -1, 5, 23, 24);
        s.each("what", what -> x.plain(0, what), -1, -1, 2, 3);
    }

    private void same() {
        s.under("Promise 11: same");
        s.of("NONE: SAME; the least CODE by which they part;");
        String p = "pass a b coin 2 at 1";
        LoanNames x = s.told(p, "if flood {" + p + "} else {" + p + "}", "choice a {" + p + "} or {" + GIFT + "}", "if war {" + p + "}");
        s.due("to itself", x.same(0, 0), -1);
        s.due("the SAME", x.same(0, 1), -1);
        s.due("by the CHOICE", x.same(0, 2), 32);
        s.due("by 0", x.same(3, 0), 0);
        s.due("by none but war", x.same(3, 3), -1);
        x.family(1, 0);
        s.due("of HANDS, not of FAMILIES", x.same(0, 2), 32);
        s.of("-2: none such.");
        s.each("one", one -> x.same(one, 0), -2, -1, 4, 23, 24);
        s.each("other", other -> x.same(0, other), -2, -1, 4, 23, 24);
        s.each("both", both -> x.same(both, both), -2, -1, 4, 23, 24);
    }
}
