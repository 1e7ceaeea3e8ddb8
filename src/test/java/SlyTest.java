/** Promises 25 to 30: OFFERED DEALS, SLY sets, HONEST BUNDLES and the WORDS that stop. */
public final class SlyTest {
    private static final Check CHECK = new Check();
    private static final String DEAR = "sale a b mule 1 for 12 at 0 paid 9";
    private static final String CHEAP = "sale b a mule 1 for 10 at 0";

    public static void main(String[] args) {
        offers();
        slySets();
        slyBySize();
        slyAndChange();
        slyNotLooked();
        honestOnes();
        parts();
        stops();
        stopsByFewest();
        CHECK.end();
    }

    private static void due(String what, long got, long want) {
        CHECK.due(what, got, want);
    }

    private static LoanNames offered(String... texts) {
        LoanNames x = new LoanNames();
        for (String text : texts) {
            x.offer(Check.deal(x, text));
        }
        return x;
    }

    private static void offers() {
        LoanNames x = new LoanNames();
        for (int i = 0; i < 11; i++) {
            Check.deal(x, DEAR);
        }
        due("offer 11", x.offer(11), -1);
        due("offer -1", x.offer(-1), -1);
        for (int i = 0; i < 10; i++) {
            due("offer", x.offer(10 - i), i + 1);
        }
        due("offer what is", x.offer(5), -1);
        due("offer the 11th", x.offer(0), -1);
        due("how many", x.count(5), 10);
        due("the BUNDLE is another thing", x.count(4), 0);
    }

    private static void slyIs(LoanNames x, int k, int many, int set) {
        due("how many by " + k, x.sly(k, 0), many);
        due("the fewest by " + k, x.sly(k, 1), set);
    }

    private static void slySets() {
        LoanNames x = offered(DEAR, "gift c d cloth 1 at 0", CHEAP);
        slyIs(x, 1, 0, -1);
        slyIs(x, 2, 1, 5);
        slyIs(x, 3, 2, 5);
        slyIs(x, 6, 2, 5);
        due("k 0", x.sly(0, 0), -1);
        due("k 7", x.sly(7, 0), -1);
        due("what 2", x.sly(2, 2), -1);
        due("what -1", x.sly(2, -1), -1);
        // Of as few the least bits; one of fewer ahead of them.
        LoanNames y = offered(CHEAP, DEAR, "pass c d coin 1 at 0,pass d c coin 2 at 1", "pass e f coin 1 at 0,pass f e coin 2 at 1");
        slyIs(y, 1, 2, 4);
        LoanNames z = offered("gift c d cloth 1 at 0", CHEAP, DEAR, CHEAP);
        slyIs(z, 2, 2, 6);
        LoanNames nested = offered(DEAR, "sale c d mule 1 for 12 at 0 paid 9", "sale d c mule 1 for 10 at 0", CHEAP);
        slyIs(nested, 2, 2, 6);
    }

    private static void slyBySize() {
        String one = "pass a b coin 1 at 0,pass b a coin 2 at 1";
        LoanNames x = offered(one, one, one, one, one, one, one, one, one, one);
        int[] sets = {10, 55, 175, 385, 637, 847};
        for (int k = 1; k <= 6; k++) {
            slyIs(x, k, sets[k - 1], 1);
        }
        slyIs(x, 2, 55, 1);
        Check.law(x, "bar pass then pass within 0;");
        slyIs(x, 6, 10, 1);
    }

    private static void slyAndChange() {
        LoanNames x = offered(DEAR);
        slyIs(x, 2, 0, -1);
        x.offer(Check.deal(x, CHEAP));
        slyIs(x, 2, 1, 3);
        Check.law(x, "bar sale then sale back same;");
        slyIs(x, 2, 0, -1);
        // In the order offered DEAR comes ahead of CHEAP on the same DAY: not for more.
        Check.law(x, "bar sale then sale back same more;");
        slyIs(x, 2, 1, 3);
        x.family(1, 0);
        slyIs(x, 2, 0, -1);
        x.family(1, 7);
        slyIs(x, 2, 1, 3);
        due("a FAULT", Check.law(x, "bar"), -1);
        slyIs(x, 2, 1, 3);
        LoanNames y = offered(CHEAP, DEAR);
        Check.law(y, "bar sale then sale back same more;");
        slyIs(y, 2, 0, -1);
        Check.law(y, "");
        slyIs(y, 2, 1, 3);
    }

    private static void slyNotLooked() {
        String five = "if dies{" + DEAR + "}else{" + DEAR + "},if rain{times 0{" + CHEAP + "}},if war{times 0{" + CHEAP
                + "}},if dear{times 0{" + CHEAP + "}},if flood{times 0{" + CHEAP + "}}";
        String three = "choice a{" + CHEAP + "}or{" + CHEAP + "},choice a{times 0{" + CHEAP + "}},choice a{times 0{"
                + CHEAP + "}}";
        String four = "choice c{gift c d mule 0 at 0}";
        LoanNames x = offered(five, three);
        slyIs(x, 2, 1, 3);
        x.offer(Check.deal(x, four));
        slyIs(x, 6, 1, 3);
        due("one with more CHOICES", x.add(0) + x.add(1) + x.add(2), 6);
        due("not LOOKED at", x.codes(), -1);
    }

    private static void honestOnes() {
        LoanNames x = new LoanNames();
        Check.deal(x, DEAR);
        Check.deal(x, CHEAP);
        due("empty", x.honest(), -1);
        x.add(1);
        x.add(0);
        for (int i = 0; i < 6; i++) {
            due("honest", x.honest(), i);
        }
        due("the 7th", x.honest(), -1);
        due("how many", x.count(6), 6);
        x.clear();
        due("first DEAL", x.innocent(5, 10), 1);
        due("second DEAL", x.innocent(5, 11), 0);
        due("third DEAL", x.innocent(5, 12), -1);
        due("what 9", x.innocent(0, 9), -1);
        due("what 2", x.innocent(0, 2), -1);
        due("what -1", x.innocent(0, -1), -1);
        due("great what", x.innocent(0, Integer.MAX_VALUE), -1);
        due("6", x.innocent(6, 0), -1);
        due("-1", x.innocent(-1, 0), -1);
        due("let", x.innocent(0, 0), 1);
        due("its loan", x.innocent(0, 1), 1);
        Check.law(x, "bar sale then sale more;");
        due("not let", x.innocent(0, 0), 0);
        due("its loan still", x.innocent(0, 1), 1);
        x.family(1, 0);
        due("no loan", x.innocent(0, 1), -1);
        LoanNames y = new LoanNames();
        Check.deal(y, "choice a {" + DEAR + "},choice a {" + DEAR + "},choice a {" + DEAR + "}");
        Check.deal(y, "choice a {" + DEAR + "},choice a {" + DEAR + "},choice a {" + DEAR + "}");
        Check.deal(y, "choice a {" + DEAR + "},choice a {" + DEAR + "},choice a {" + DEAR + "}");
        due("three DEALS", y.add(0) + y.add(1) + y.add(2), 6);
        due("honest", y.honest(), 0);
        due("loan of what is not LOOKED at", y.innocent(0, 1), -1);
        due("let all the same", y.innocent(0, 0), 1);
        y.clear();
        due("parts from what is not LOOKED at", y.parts(0), -1);
        y.add(0);
        due("honest", y.honest(), 1);
        due("parts", y.parts(1), -1);
        y.add(1);
        due("parts", y.parts(1), -2);
        y.add(2);
        due("parts when not LOOKED at", y.parts(1), -1);
    }

    private static void partsIs(String honest, String told, int want) {
        LoanNames x = new LoanNames();
        Check.deal(x, honest);
        Check.deal(x, told);
        x.add(0);
        x.honest();
        x.clear();
        x.add(1);
        due("parts of " + honest + " / " + told, x.parts(0), want);
        due("parts of no such", x.parts(1), -1);
        due("parts of -1", x.parts(-1), -1);
    }

    private static void parts() {
        String p = "pass a b coin 2 at 1";
        partsIs(p, p, -1);
        partsIs(p, "pass a b coin 1 at 3,gift a b coin 1 at 4", -1);
        partsIs(p, "pass a b coin 3 at 1", -2);
        partsIs(p, "pass a b mule 2 at 1", -2);
        partsIs(p, p + ",gift d e grain 1 at 0", -2);
        partsIs(p, p + ",if war {gift a b mule 1 at 0}", 2);
        partsIs("if rain {" + p + "} else {" + p + "," + p + "}", p + "," + p, 1);
        partsIs("if flood {" + p + "}", "if dear {" + p + "}", 3);
        partsIs("if dies {if rain {" + p + "}}", "times 0 {" + p + "}", -1);
        partsIs("choice a {" + p + "} or {gift a c mule 1 at 1}", p, -1);
        partsIs("choice a {times 0 {" + p + "}} or {" + p + "}", p, -2);
        LoanNames x = Check.bundled(p, "gift b c mule 1 at 1");
        x.honest();
        x.clear();
        due("parts from nothing", x.parts(0), -2);
    }

    private static void stops() {
        LoanNames x = offered(DEAR, CHEAP);
        due("without a WORD", x.stop(2), -1);
        due("without SLY ones", x.stop(1), 0);
        due("k 0", x.stop(0), -1);
        due("k 7", x.stop(7), -1);
        Check.word(x, "bar hire;");
        due("with a WORD that does nothing", x.stop(2), -1);
        Check.word(x, "bar sale;");
        due("with a WORD", x.stop(2), 2);
        x.add(0);
        x.honest();
        due("an HONEST one is barred by it", x.stop(2), -1);
        due("nothing to stop", x.stop(1), 0);
        Check.word(x, "bar sale then sale back;");
        due("another WORD", x.stop(2), 4);
        Check.law(x, "bar sale then sale back;");
        due("nothing is let", x.stop(2), 0);
        Check.law(x, "bar hire;");
        due("nothing is stopped by the LAW", x.stop(2), 4);
        x.family(1, 0);
        due("no LOAN within a FAMILY", x.stop(2), 0);
    }

    private static void stopsByFewest() {
        LoanNames x = offered(DEAR, CHEAP, "pass c d coin 1 at 0,gift d c coin 2 at 1", "hire e f coin 3 for 1 at 0 back 3");
        due("SLY ones", x.sly(1, 0), 2);
        Check.word(x, "bar sale;");
        Check.word(x, "bar gift;");
        Check.word(x, "bar hire;");
        Check.word(x, "bar hire of coin;bar hire of house;");
        due("two words of four", x.stop(1), 2 + 4);
        due("three words of four", x.stop(2), 1 + 2 + 4);
        Check.word(x, "bar hire;bar gift;bar sale;");
        due("one word", x.stop(2), 16);
        x.add(0);
        x.honest();
        due("one that is HONEST", x.stop(1), 2 + 4);
        due("and none", x.stop(2), -1);
        Check.word(x, "bar sale then any back;");
        due("three again", x.stop(2), 2 + 4 + 32);
        Check.word(x, "bar any then sale;bar hire;");
        due("two", x.stop(2), 2 + 64);
    }
}
