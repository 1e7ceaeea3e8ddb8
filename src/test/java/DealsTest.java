/** Promises 8 to 11: what a DEAL is made of, PLAIN and the SAME. */
public final class DealsTest {
    private static final Check CHECK = new Check();
    private static final String P = "pass a b coin 2 at 1";
    private static final String Q = "gift b c mule 1 at 2";

    public static void main(String[] args) {
        sizes();
        leaves();
        plainByOneRule();
        plainByMoreRules();
        plainParts();
        same();
        sameByCodes();
        CHECK.end();
    }

    private static void due(String what, long got, long want) {
        CHECK.due(what, got, want);
    }

    private static void sizes() {
        LoanNames x = new LoanNames();
        Check.deal(x, "times 0 {if flood {choice h {sale c d grain 1 for 2 at 3}}},if dies {pass c e coin 1 at 1}", 17);
        long[] want = {2, 1, 16 + 1, 17, 4 + 8 + 16, 32 + 1};
        for (int what = 0; what < 6; what++) {
            due("size " + what, x.size(0, what), want[what]);
        }
        due("what 6", x.size(0, 6), -1);
        due("what -1", x.size(0, -1), -1);
        due("no such DEAL", x.size(1, 0), -1);
        due("DEAL -1", x.size(-1, 0), -1);
        x.family(2, 7);
        x.family(4, 7);
        due("FAMILIES", x.size(0, 4), 128 + 8);
        Check.deal(x, "sale a b mule 1 for 5 at 0");
        due("a sale's THING is not its coin", x.size(1, 5), 2);
        due("no EVENTS", x.size(1, 2), 0);
    }

    private static void leafIs(LoanNames x, int deal, int k, int... want) {
        for (int what = 0; what < 8; what++) {
            due("leaf " + k + " what " + what, x.leaf(deal, k, what), want[what]);
        }
    }

    private static void leaves() {
        LoanNames x = new LoanNames();
        Check.deal(x, "after 10 {hire a h house 3 for 4 at 5 back 6,times 7 {after 399 {sale g b work 1 for 2 at 3 paid 4}}},"
                + "if war {gift c d cloth 9 at 8} else {pass d c coin 0 at 399}");
        leafIs(x, 0, 0, 3, 0, 7, 3, 3, 4, 15, 16);
        leafIs(x, 0, 1, 2, 6, 1, 4, 1, 2, 412, 413);
        leafIs(x, 0, 2, 1, 2, 3, 2, 9, 0, 8, 8);
        leafIs(x, 0, 3, 0, 3, 2, 0, 0, 0, 399, 399);
        due("LEAF 4", x.leaf(0, 4, 0), -1);
        due("LEAF -1", x.leaf(0, -1, 0), -1);
        due("what 8", x.leaf(0, 0, 8), -1);
        due("what -1", x.leaf(0, 0, -1), -1);
        due("DEAL 1", x.leaf(1, 0, 0), -1);
        due("DEAL -1", x.leaf(-1, 0, 0), -1);
        Check.deal(x, "sale a b mule 1 for 5 at 9");
        leafIs(x, 1, 0, 2, 0, 1, 1, 1, 5, 9, 9);
    }

    private static void plain(String text, int steps, int leaves) {
        LoanNames x = new LoanNames();
        due("deal " + text, Check.deal(x, text), 0);
        due("STEPS of " + text, x.plain(0, 0), steps);
        due("LEAVES left of " + text, x.plain(0, 1), leaves);
        due("plain does not change a DEAL", x.plain(0, 0), steps);
    }

    private static void plainByOneRule() {
        plain(P, 0, 1);
        plain("after 1 {" + P + "}", 0, 1);
        plain("after 0 {" + P + "," + Q + "}", 1, 2);
        plain("times 1 {" + P + "}", 1, 1);
        plain("times 2 {" + P + "}", 0, 1);
        plain("times 0 {" + P + "}", 1, 0);
        plain("times 2 {times 2 {" + P + "}}", 0, 1);
        plain("after 3 {after 4 {" + P + "}}", 1, 1);
        plain("after 3 {after 4 {" + P + "}," + Q + "}", 0, 2);
        plain("after 3 {times 2 {after 4 {" + P + "}}}", 0, 1);
        plain("if rain {" + P + "} else {" + P + "}", 1, 1);
        plain("choice a {" + P + "} or {" + P + "}", 1, 1);
        plain("if rain {" + P + "}", 0, 1);
        plain("choice a {" + P + "}", 0, 1);
        plain("if rain {" + P + "} else {" + Q + "}", 0, 2);
        plain("if rain {" + P + "," + Q + "} else {" + Q + "," + P + "}", 0, 4);
        LoanNames x = new LoanNames();
        Check.deal(x, P);
        due("what 2", x.plain(0, 2), -1);
        due("what -1", x.plain(0, -1), -1);
        due("DEAL 1", x.plain(1, 0), -1);
        due("DEAL -1", x.plain(-1, 0), -1);
    }

    private static void plainByMoreRules() {
        plain("after 3 {times 0 {" + P + "}}", 2, 0);
        plain("times 3 {times 0 {" + P + "}}", 2, 0);
        plain("times 0 {times 0 {" + P + "}}", 2, 0);
        plain("after 0 {times 0 {" + P + "}}", 2, 0);
        plain("times 1 {times 0 {" + P + "}}", 2, 0);
        plain("times 0 {after 0 {times 1 {" + P + "}}}", 3, 0);
        plain("after 3 {times 1 {after 4 {" + P + "}}}", 2, 1);
        plain("after 3 {times 0 {" + P + "},after 4 {" + Q + "}}", 2, 1);
        plain("after 1 {after 2 {after 3 {after 4 {" + P + "}}}}", 3, 1);
        plain("after 0 {after 2 {after 0 {after 4 {" + P + "}}}}", 3, 1);
        plain("after 5 {if rain {after 7 {" + P + "}} else {after 7 {" + P + "}}}", 2, 1);
        plain("times 1 {" + P + "},times 0 {" + P + "},times 1 {" + Q + "}", 3, 2);
        plain("after 5 {after 0 {after 7 {" + P + "}," + Q + "}}", 1, 2);
    }

    private static void plainParts() {
        plain("if rain {times 0 {" + P + "}}", 2, 0);
        plain("if rain {times 0 {" + P + "}} else {times 0 {" + Q + "}}", 3, 0);
        plain("if rain {times 0 {" + P + "}} else {" + P + "}", 1, 1);
        plain("choice a {times 0 {" + P + "}} or {after 2 {times 0 {" + P + "}}}", 4, 0);
        plain("if rain {after 3 {after 4 {" + P + "}}} else {after 7 {" + P + "}}", 2, 1);
        plain("if rain {after 3 {" + P + "}} else {pass a b coin 2 at 4}", 0, 2);
        plain("if rain {sale a b mule 1 for 2 at 3} else {sale a b mule 1 for 2 at 3 paid 3}", 1, 1);
        plain("if rain {sale a b mule 1 for 2 at 3} else {sale a b mule 1 for 2 at 3 paid 4}", 0, 2);
        plain("if rain {pass a b coin 02 at 1} else {" + P + "}", 1, 1);
        // Parts that have a "choice" in them are not alike, whatever they look like.
        plain("if rain {choice a {" + P + "}} else {choice a {" + P + "}}", 0, 2);
        plain("if rain {choice a {" + P + "} or {" + P + "}} else {choice a {" + P + "} or {" + P + "}}", 3, 1);
        plain("if rain {times 0 {choice a {" + P + "}}," + Q + "} else {" + Q + "}", 2, 1);
        plain("if rain {if war {" + P + "}} else {if war {" + P + "} else {times 0 {" + Q + "}}}", 2, 1);
        plain("if rain {if war {" + P + "}} else {if dear {" + P + "}}", 0, 2);
        plain("if rain {times 2 {" + P + "}} else {times 3 {" + P + "}}", 0, 2);
        plain("if rain {times 2 {" + P + "}} else {after 2 {" + P + "}}", 0, 2);
    }

    private static void same(String one, String other, int want) {
        LoanNames x = new LoanNames();
        Check.deal(x, one);
        Check.deal(x, other);
        due("same " + one + " / " + other, x.same(0, 1), want);
        due("same " + other + " / " + one, x.same(1, 0), want);
        due("same as itself", x.same(0, 0), -1);
    }

    private static void same() {
        same(P, "pass a b coin 1 at 1,gift a b coin 1 at 1", -1);
        same(P, "pass a b coin 2 at 2", 0);
        same(P, "pass a b coin 3 at 1", 0);
        same(P, "pass b a coin 2 at 1", 0);
        same(P, "pass a c coin 2 at 1", 0);
        same(P, "pass a b mule 2 at 1", 0);
        same(P, "times 2 {pass a b coin 1 at 1}", -1);
        same(P, "after 1 {pass a b coin 2 at 0}", -1);
        same("pass a b coin 3 at 1,pass b a coin 1 at 1", P, 0);
        same("times 0 {" + P + "}", "pass c d grain 0 at 3", -1);
        same("pass b c coin 2 at 1", "pass a c coin 2 at 2", 0);
        same("pass a c coin 2 at 1", "pass a b mule 2 at 1", 0);
        same("pass a c coin 2 at 1", "pass b c coin 2 at 0", 0);
        StringBuilder hires = new StringBuilder("hire a b mule 1 for 1 at 0 back 20");
        for (int i = 1; i < 12; i++) {
            hires.append(",hire a b mule 1 for 1 at ").append(i).append(" back ").append(i + 20);
        }
        same(hires.toString(), "after 40 {" + hires + "}", 0);
        same(hires.toString(), "after 0 {" + hires + "}", -1);
        same("sale a b mule 3 for 4 at 5 paid 6", "gift a b mule 3 at 5,pass b a coin 4 at 6", -1);
        same("hire a b mule 3 for 4 at 5 back 6", "gift a b mule 3 at 5,gift b a mule 3 at 6,pass b a coin 4 at 6", -1);
        same("sale a b mule 3 for 4 at 5", "sale b a coin 4 for 0 at 5,pass a b mule 3 at 5", -1);
        LoanNames x = new LoanNames();
        Check.deal(x, P);
        due("no such other", x.same(0, 1), -2);
        due("no such one", x.same(-1, 0), -2);
    }

    private static void sameByCodes() {
        same(P, "if war {" + Q + "," + P + "} else {" + P + "}", 4);
        same(P, "if flood {" + P + "} else {" + Q + "}", 0);
        same("if dies {" + P + "}", "if rain {" + P + "}", 1);
        same("if flood {" + P + "," + Q + "} else {" + P + "}", "if dear {" + P + "," + Q + "} else {" + P + "}", 8);
        same(P, "choice a {" + P + "} or {" + P + "," + Q + "}", 32);
        same("choice a {" + P + "} or {" + Q + "}", "choice h {" + P + "} or {" + Q + "}", -1);
        same("choice a {" + P + "} or {" + Q + "}", "choice a {" + Q + "} or {" + P + "}", 0);
        same("choice a {" + P + "}", "choice a {choice b {" + P + "} or {" + P + "}}", -1);
        same("choice a {" + P + "}", "choice b {choice a {" + P + "}}", 64);
        same("choice a {" + P + "}", "choice b {" + P + "} or {choice c {times 0 {" + P + "}} or {" + P + "}}", 32 + 64);
        same("choice a {" + P + "},choice a {" + Q + "},choice a {" + P + "}",
                "choice a {" + P + "},choice a {" + Q + "},choice a {" + P + "} or {if flood {" + P + "}}", 128 + 16);
        same("if rain {if rain {" + P + "} else {" + Q + "}}", "if rain {" + P + "}", -1);
        same("if rain {" + P + "} else {if rain {" + Q + "} else {" + P + "}}", P, -1);
    }
}
