/** Promises 25 to 33: OFFERED DEALS, SLY sets, HONEST BUNDLES, WORDS that stop, HEAPS, and how many there are. */
final class PromisesOfSets {
    private static final String LOAN = "pass a b coin 1 at 0,pass b a coin 2 at 1";
    private static final String OUT = "pass a b coin 1 at 0";
    private static final String BACK = "pass b a coin 2 at 1";
    private static final String CHOICES = Check.repeat("choice c {gift c d mule 0 at 0}", 3, ",");

    private final Sentences s;

    PromisesOfSets(Sentences s) {
        this.s = s;
    }

    /** Goes on where PromisesOfBundles ends. */
    void hold() {
        offer();
        sly();
        honest();
        innocent();
        parts();
        stop();
        heap();
        group();
        count();
    }

    private void offer() {
        s.under("Promise 25: offer");
        s.of("A DEAL is OFFERED: how many are.");
        String[] twelve = new String[12];
        java.util.Arrays.fill(twelve, OUT);
        LoanNames x = s.told(twelve);
        s.due("the first", x.offer(11), 1);
        s.due("the second", x.offer(0), 2);
        s.of("NONE, doing nothing: none such, it is, 10 are.");
        String before = Sentences.state(x);
        s.each("none such", x::offer, -1, -1, 12, 23, 24);
        s.due("it is", x.offer(0), -1);
        s.due("it is", x.offer(11), -1);
        s.due("all", Sentences.state(x), before);
        for (int deal = 1; deal < 9; deal++) {
            s.due("offer", x.offer(deal), deal + 2);
        }
        before = Sentences.state(x);
        s.due("10 are", x.offer(9), -1);
        s.due("10 are, and it is", x.offer(8), -1);
        s.due("all", Sentences.state(x), before);
        s.due("the BUNDLE is another thing", x.count(4), 0);
    }

    private void sly() {
        s.under("Promise 26: sly");
        s.of("SLY by k: how many (what 0), the set of the fewest as bits by the order offered (1; NONE).");
        LoanNames x = s.told(BACK, LOAN, OUT);
        for (int deal = 2; deal >= 0; deal--) {
            x.offer(deal);
        }
        int[] many = {1, 3, 4, 4, 4, 4};
        for (int k = 1; k <= 6; k++) {
            s.due("how many by " + k, x.sly(k, 0), many[k - 1]);
            s.due("the fewest by " + k, x.sly(k, 1), 2);
        }
        LoanNames two = s.told(BACK, OUT);
        two.offer(1);
        two.offer(0);
        s.due("none by 1", two.sly(1, 0), 0);
        s.due("no set by 1", two.sly(1, 1), -1);
        s.due("one by 2", two.sly(2, 0), 1);
        s.due("its set", two.sly(2, 1), 3);
        s.due("no set of none", new LoanNames().sly(6, 1), -1);
        // Whatever changes is looked at again.
        two.family(1, 0);
        s.due("within a FAMILY", two.sly(2, 0), 0);
        two.family(1, 1);
        s.due("and back", two.sly(2, 0), 1);
        LoanNames even = s.offered(LOAN + ",gift a c mule 1 at 0");
        // Less and less is over all the same by these FAMILIES, or more and more.
        for (int round = 0; round < 3; round++) {
            s.due("a's mule is gone", even.sly(1, 0), 0);
            even.family(2, 0);
            s.due("a's FAMILY has it", even.sly(1, 0), 1);
            even.family(2, 2);
        }
        LoanNames days = s.offered("pass a b coin 10 at 5,pass b a coin 12 at 9,pass c d coin 1 at 4,pass d c coin 1 at 10");
        for (int round = 0; round < 3; round++) {
            s.due("a's first DAY is b's", days.sly(1, 0), 1);
            s.due("the set", days.sly(1, 1), 1);
            days.family(2, 0);
            s.due("a's FAMILY gave to d ahead of it", days.sly(1, 0), 0);
            s.due("no set", days.sly(1, 1), -1);
            days.family(2, 2);
        }
        LoanNames codes = s.offered("if rain {" + LOAN + "}", "if rain {times 0 {" + OUT + "}} else {" + LOAN + "}", LOAN + ",if rain {"
            + "if war {gift a c mule 1 at 0}}", LOAN + ",choice a {choice b {" + BACK + "} or {pass b a coin 1 at 1}} or {choice b {"
            + BACK + "}}");
        s.due("by each CODE", codes.sly(1, 1), 8);
        s.due("alone", codes.sly(1, 0), 1);
        s.due("two together", codes.sly(2, 0), 4);
        Check.law(two, "bar pass then pass;");
        s.due("by a LAW", two.sly(2, 0), 0);
        Check.law(two, "");
        Check.deal(two, LOAN);
        two.offer(2);
        s.due("with one more", two.sly(1, 1), 4);
        two.add(0);
        s.due("the BUNDLE is another thing", two.sly(1, 1), 4);
        s.of("NONE: none such.");
        for (int what = 0; what < 2; what++) {
            int told = what;
            s.each("k", k -> x.sly(k, told), -1, -1, 0, 7, 10);
        }
        s.each("what", what -> x.sly(2, what), -1, -1, 2, 3);
    }

    private void honest() {
        s.under("Promise 27: honest");
        s.of("The BUNDLE is kept as HONEST: its number.");
        LoanNames x = s.bundled(LOAN, OUT);
        for (int i = 0; i < 5; i++) {
            s.due("honest", x.honest(), i);
        }
        s.due("the BUNDLE stays", x.count(4), 2);
        s.of("NONE, doing nothing: 6 are there, it's empty.");
        x.clear();
        String before = Sentences.state(x);
        s.due("it's empty", x.honest(), -1);
        s.due("all", Sentences.state(x), before);
        x.add(0);
        s.due("the 6th", x.honest(), 5);
        before = Sentences.state(x);
        s.due("6 are there", x.honest(), -1);
        s.due("all", Sentences.state(x), before);
        x.clear();
        s.due("6 are there, and it's empty", x.honest(), -1);
    }

    private void innocent() {
        s.under("Promise 28: innocent");
        s.of("Of an HONEST one: whether the LAW LETS it (what 0: 1), its LOAN (1), 10 + k its k-th DEAL.");
        LoanNames x = s.told(OUT, BACK, CHOICES, CHOICES, CHOICES, OUT);
        x.add(1);
        x.add(0);
        s.due("honest", x.honest(), 0);
        for (int deal = 2; deal < 6; deal++) {
            x.add(deal);
        }
        s.due("a full one", x.honest(), 1);
        x.clear();
        s.due("let", x.innocent(0, 0), 1);
        s.due("its LOAN", x.innocent(0, 1), 1);
        s.due("its first DEAL", x.innocent(0, 10), 1);
        s.due("its second", x.innocent(0, 11), 0);
        s.due("no LOAN, not LOOKED at", x.innocent(1, 1), -1);
        LoanNames y = s.told("pass b a coin 1 at 0,pass a b coin 2 at 1", "pass d c coin 1 at 0,pass c d coin 2 at 1", OUT);
        for (int deal = 0; deal < 3; deal++) {
            y.add(deal);
            y.honest();
            y.clear();
        }
        int[] loans = {10, 32, -1};
        for (int honest : new int[] {0, 1, 2, 0, 2, 1, 0, 0, 1, 1}) {
            s.due("LOAN of " + honest, y.innocent(honest, 1), loans[honest]);
        }
        s.due("the 6th DEAL", x.innocent(1, 15), 5);
        Check.law(x, "bar pass then pass;");
        s.due("not let", x.innocent(0, 0), 0);
        s.due("nor that", x.innocent(1, 0), 0);
        Check.law(x, "bar gift;");
        s.due("let again", x.innocent(0, 0), 1);
        s.due("not that", x.innocent(1, 0), 0);
        x.family(1, 0);
        s.due("no LOAN within a FAMILY", x.innocent(0, 1), -1);
        s.of("NONE: none such.");
        for (int what : new int[] {0, 1, 10}) {
            s.each("HONEST one, what " + what, honest -> x.innocent(honest, what), -1, -1, 2, 5, 6);
        }
        s.each("what", what -> x.innocent(0, what), -1, -1, 2, 9, 12, 15, 16);
        s.each("what of a full one", what -> x.innocent(1, what), -1, -1, 2, 9, 16, 17);
    }

    private void parts() {
        s.under("Promise 29: parts");
        s.of("PARTS.");
        LoanNames x = s.told(OUT, "gift a b coin 1 at 9", BACK, OUT + ",if flood {" + OUT + "}", CHOICES, CHOICES, CHOICES);
        x.add(0);
        x.honest();
        x.clear();
        x.add(2);
        s.due("at once", x.parts(0), -2);
        x.clear();
        x.add(3);
        s.due("by flood", x.parts(0), 4);
        s.of("NONE: none, none such, not LOOKED at.");
        x.clear();
        x.add(1);
        s.due("none", x.parts(0), -1);
        s.each("HONEST one", x::parts, -1, -1, 1, 5, 6);
        s.due("from itself", x.honest(), 1);
        s.due("none", x.parts(1), -1);
        x.add(2);
        s.due("at once", x.parts(0), -2);
        x.add(4);
        x.add(5);
        s.due("LOOKED at", x.parts(0), -2);
        x.add(6);
        s.due("not LOOKED at", x.parts(0), -1);
        s.due("honest", x.honest(), 2);
        s.due("neither is", x.parts(2), -1);
        x.clear();
        s.due("the HONEST one isn't", x.parts(2), -1);
    }

    private void stop() {
        s.under("Promise 30: stop");
        s.of("STOP by k: the set of WORDS.");
        LoanNames x = s.offered(OUT, BACK, LOAN);
        for (int word = 0; word < 12; word++) {
            s.due("word", Check.word(x, word == 3 ? "bar pass of coin then any back;" : word == 11 ? "bar pass;" : "bar gift;"), word);
        }
        for (int k = 1; k <= 6; k++) {
            s.due("by " + k, x.stop(k), 8);
        }
        x.add(2);
        x.honest();
        s.of("NONE: none, none such.");
        for (int k = 1; k <= 6; k++) {
            s.due("none by " + k, x.stop(k), -1);
        }
        s.each("k", x::stop, -1, -1, 0, 7, 10);
        s.due("nothing to stop is no WORDS, not none", new LoanNames().stop(1), 0);
    }

    private void heap() {
        s.under("Promise 31: heap");
        s.of("HEAP by n: how many GROUPS (deal NONE), the GROUP of a DEAL.");
        LoanNames x = new LoanNames();
        Check.deal(x, "gift a b mule 1 at 0", 10);
        Check.deal(x, "gift a b cloth 1 at 0", 10);
        Check.deal(x, "gift a b mule 1 at 300", 14);
        s.due("GROUPS by 3", x.heap(3, -1), 3);
        s.due("GROUPS by 4", x.heap(4, -1), 2);
        s.due("the last one's by 3", x.heap(3, 2), 2);
        s.due("the last one's by 4", x.heap(4, 2), 0);
        s.due("the second's", x.heap(4, 1), 1);
        s.due("by as many as can be", x.heap(Integer.MAX_VALUE, 2), 0);
        s.due("by 0", x.heap(0, 2), 2);
        s.due("of none", new LoanNames().heap(0, -1), 0);
        s.of("NONE: none such, n below 0.");
        s.each("DEAL", deal -> x.heap(4, deal), -1, 3, 23, 24);
        for (int n : new int[] {-1, -2, Integer.MIN_VALUE}) {
            s.due("GROUPS by " + n, x.heap(n, -1), -1);
            s.due("a GROUP by " + n, x.heap(n, 0), -1);
        }
        s.due("the first of none", new LoanNames().heap(0, 0), -1);
    }

    private void group() {
        s.under("Promise 32: group");
        s.of("The LOAN of a DEAL's GROUP by n.");
        LoanNames x = new LoanNames();
        Check.deal(x, "sale d e mule 1 for 10 at 0", 5);
        Check.deal(x, "gift a b cloth 1 at 0", 5);
        Check.deal(x, "sale e d mule 1 for 12 at 0 paid 9", 7);
        s.due("of the first", x.group(2, 0), 43);
        s.due("of the other", x.group(2, 2), 43);
        s.due("by as many as can be", x.group(Integer.MAX_VALUE, 0), 43);
        s.due("the BUNDLE is another thing", x.count(4), 0);
        s.of("NONE: none, none such.");
        s.due("apart", x.group(1, 0), -1);
        for (int round = 0; round < 4; round++) {
            s.due("of one GROUP", x.group(2, 0), 43);
            s.due("of another", x.group(2, 1), -1);
            s.due("apart", x.group(1, 2), -1);
        }
        LoanNames now = s.told("gift a b mule 0 at 0," + OUT, "gift a b mule 0 at 0," + BACK);
        s.due("by 0", now.group(0, 1), 1);
        s.due("of another GROUP", x.group(2, 1), -1);
        x.family(4, 3);
        s.due("within a FAMILY", x.group(2, 0), -1);
        x.family(4, 4);
        s.each("DEAL", deal -> x.group(2, deal), -1, -1, 3, 23, 24);
        for (int n : new int[] {-1, -2, Integer.MIN_VALUE}) {
            s.due("by " + n, x.group(n, 0), -1);
        }
        s.due("of none", new LoanNames().group(0, 0), -1);
    }

    private void counts(LoanNames x, int... want) {
        for (int what = 0; what < 10; what++) {
            s.due("count " + what, x.count(what), want[what]);
        }
    }

    private void count() {
        s.under("Promise 33: count");
        s.of("0 DEALS, 1 LAWS, 2 statements of the one in force, 3 WORDS, 4 DEALS in the BUNDLE, 5 OFFERED ones, 6 HONEST ones, "
            + "7 LEAVES in the BUNDLE, 8 CHOICES in it, 9 bytes on the tape.");
        LoanNames x = new LoanNames();
        counts(x, 0, 0, 0, 0, 0, 0, 0, 0, 0, 0);
        Check.deal(x, "choice a {gift a b mule 1 at 0}," + LOAN);
        Check.deal(x, OUT);
        Check.deal(x, OUT);
        x.add(0);
        x.add(2);
        Check.law(x, "bar any;");
        Check.law(x, "bar any;bar any;bar any;bar any;bar any;");
        Check.word(x, "bar any;");
        x.honest();
        x.offer(1);
        x.offer(0);
        x.offer(2);
        Check.deal(x, "nothing");
        Check.feed(x, "x");
        counts(x, 3, 2, 5, 1, 2, 3, 1, 4, 1, 20);
        Check.law(x, "");
        x.clear();
        counts(x, 3, 3, 0, 1, 0, 3, 1, 0, 0, 0);
        counts(full(), 24, 6, 16, 12, 6, 10, 6, 72, 18, 600);
        s.of("NONE for others.");
        s.each("what", x::count, -1, -1, 10, 11);
    }

    /** As many of all as there can be. */
    private LoanNames full() {
        LoanNames x = new LoanNames();
        for (int deal = 0; deal < 18; deal++) {
            Check.deal(x, OUT);
        }
        for (int deal = 18; deal < 24; deal++) {
            Check.deal(x, "choice a {choice b {choice c {" + Check.repeat("gift a b mule 1 at 1", 12, ",") + "}}}");
        }
        for (int law = 0; law < 6; law++) {
            Check.law(x, Check.repeat("bar any;", 16, ""));
            x.add(law + 18);
        }
        for (int word = 0; word < 12; word++) {
            Check.word(x, Check.repeat("bar any;", 12, ""));
            x.offer(word);
            x.honest();
        }
        for (int i = 0; i < 31; i++) {
            x.feed(0, 0, 0, 0, 0);
        }
        return x;
    }
}
