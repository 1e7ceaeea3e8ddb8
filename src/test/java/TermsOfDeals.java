/** The document's Terms of single DEALS: what PASSES, what is PLAIN, what is the SAME. */
final class TermsOfDeals {
    private static final String P = "pass a b coin 2 at 1";
    private static final String Q = "gift b c mule 1 at 2";

    private final Sentences s;

    TermsOfDeals(Sentences s) {
        this.s = s;
    }

    /** Goes on where TermsOfTexts ends. */
    void hold() {
        passesByCodes();
        passesByForms();
        passesByParts();
        plainByOneStep();
        plainByWhatIsLeft();
        plainInRows();
        same();
    }

    private void passesByCodes() {
        s.of("What PASSES by a CODE (EVENTS that come as bits 0 to 4;");
        LoanNames x = s.well("if dies {pass a b coin 1 at 0},if rain {pass a b coin 2 at 0},if war {pass a b coin 4 at 0},"
            + "if dear {pass a b coin 8 at 0},if flood {pass a b coin 16 at 0}");
        for (int code = 0; code < 32; code++) {
            s.due("what comes by " + code, x.net(code, 1, 0, -1), code);
        }
        s.of("from bit 5 on the CHOICES by the order of their words, 0: the first part, 1: the second, or nothing):");
        LoanNames y = s.well("choice a {choice b {pass a b coin 1 at 0} or {pass a b coin 2 at 0}} or "
            + "{choice c {pass a b coin 4 at 0},pass a b coin 8 at 0}");
        int[] want = {1, 8 + 4, 2, 8 + 4, 1, 8, 2, 8};
        for (int choices = 0; choices < 8; choices++) {
            s.due("by the choices " + choices, y.net(choices << 5, 1, 0, -1), want[choices]);
            s.due("by them and all EVENTS", y.net(choices << 5 | 31, 1, 0, -1), want[choices]);
        }
        s.rows(y, 5 << 5, 1);
        s.rows(s.well("choice a {" + P + "}"), 32, 0);
    }

    private void passesByForms() {
        s.of("pass, gift: so much of the THING from the first HAND to the second.");
        for (String form : new String[] {"pass", "gift"}) {
            LoanNames x = s.well(form + " c h grain 9999 at 399");
            s.rows(x, 0, 1);
            s.row(x, 0, 0, 399, 2, 7, 5, 9999);
            s.rows(s.well(form + " c h grain 0 at 0"), 0, 1);
        }
        s.of("sale: likewise, and so much coin from the second to the first on the DAY of \"paid\" (else \"at\").");
        LoanNames paid = s.well("sale c h grain 3 for 4 at 5 paid 6");
        s.rows(paid, 0, 2);
        s.row(paid, 0, 0, 5, 2, 7, 5, 3);
        s.row(paid, 0, 1, 6, 7, 2, 0, 4);
        LoanNames unpaid = s.well("sale c h coin 3 for 0 at 5");
        s.rows(unpaid, 0, 2);
        s.row(unpaid, 0, 0, 5, 2, 7, 0, 3);
        s.row(unpaid, 0, 1, 5, 7, 2, 0, 0);
        s.of("hire: the THING on \"at\", back on \"back\", coin from the second to the first on \"back\".");
        LoanNames hire = s.well("hire c h work 3 for 4 at 5 back 5");
        s.rows(hire, 0, 3);
        s.row(hire, 0, 0, 5, 2, 7, 4, 3);
        s.row(hire, 0, 1, 5, 7, 2, 4, 3);
        s.row(hire, 0, 2, 5, 7, 2, 0, 4);
        s.due("back on its DAY", s.well("hire c h work 3 for 4 at 0 back 399").passed(0, 1, 0), 399);
        s.due("coin on its DAY", s.well("hire c h work 3 for 4 at 0 back 399").passed(0, 2, 0), 399);
    }

    private void passesByParts() {
        s.of("\"after\": all DAYS later by it;");
        LoanNames later = s.well("after 10 {hire a b mule 1 for 1 at 1 back 2,after 399 {sale a b mule 1 for 1 at 3 paid 4}},"
            + "pass a b coin 1 at 5");
        long[] days = {11, 12, 12, 412, 413, 5};
        for (int k = 0; k < days.length; k++) {
            s.due("DAY of row " + k, later.passed(0, k, 0), days[k]);
        }
        s.due("as late as can be", s.well("after 399{".repeat(6) + "sale a b mule 1 for 1 at 0 paid 399" + "}".repeat(6))
            .passed(0, 1, 0), 7 * 399);
        s.of("\"times\": the same rows, each so many times as much (0: no rows);");
        LoanNames times = s.well("times 3 {hire a b mule 2 for 5 at 1 back 2,times 4 {pass a b coin 1 at 1}},pass a b coin 7 at 1");
        s.rows(times, 0, 5);
        long[] much = {6, 6, 15, 12, 7};
        for (int k = 0; k < much.length; k++) {
            s.due("how much of row " + k, times.passed(0, k, 4), much[k]);
        }
        s.rows(s.well("times 0 {hire a b mule 2 for 5 at 1 back 2}"), 0, 0);
        s.rows(s.well("times 0 {times 9 {" + P + "}," + Q + "}," + P), 0, 1);
        s.rows(s.well("times 9 {times 0 {" + P + "}," + Q + "}"), 0, 1);
        s.due("as much as can be", s.well("times 9{".repeat(6) + "sale a b mule 1 for 9999 at 0" + "}".repeat(6))
            .passed(0, 1, 4), 9999L * 9 * 9 * 9 * 9 * 9 * 9);
        s.of("\"if\": the first part if the EVENT comes, else the second (nothing without one).");
        LoanNames two = s.well("if war {" + P + "} else {" + Q + "}");
        s.row(two, 4, 0, 1, 0, 1, 0, 2);
        s.row(two, 27, 0, 2, 1, 2, 1, 1);
        s.rows(two, 4, 1);
        s.rows(two, 27, 1);
        s.rows(s.well("if war {" + P + "}"), 27, 0);
        LoanNames again = s.well("if war {if war {" + P + "} else {" + Q + "," + Q + "}} else {if war {" + Q + "," + Q
            + "} else {" + Q + "}}");
        s.row(again, 4, 0, 1, 0, 1, 0, 2);
        s.rows(again, 4, 1);
        s.row(again, 0, 0, 2, 1, 2, 1, 1);
        s.rows(again, 0, 1);
        s.of("Rows in the order of the text (of a sale, hire as told here).");
        LoanNames order = s.well("pass a b coin 1 at 9,if rain {sale a b mule 2 for 3 at 8 paid 9} else {pass a b coin 4 at 7},"
            + "hire a b mule 5 for 6 at 0 back 1,pass a b coin 7 at 0");
        long[] byRain = {1, 2, 3, 5, 5, 6, 7};
        long[] byNone = {1, 4, 5, 5, 6, 7};
        for (int k = 0; k < byRain.length; k++) {
            s.due("by rain", order.passed(2, k, 4), byRain[k]);
        }
        for (int k = 0; k < byNone.length; k++) {
            s.due("by none", order.passed(0, k, 4), byNone[k]);
        }
    }

    private void plain(String text, int steps, int leaves) {
        LoanNames x = s.well(text);
        s.due("STEPS of " + text, x.plain(0, 0), steps);
        s.due("LEAVES left of " + text, x.plain(0, 1), leaves);
    }

    private void plainByOneStep() {
        s.of("PLAIN of a DEAL: from inside out, the first ahead of the second, ahead of what they're in, each by one STEP:");
        plain(P, 0, 1);
        plain("after 1 {times 2 {if rain {choice a {" + P + "} or {" + Q + "}} else {" + Q + "}}}", 0, 3);
        // From outside in it would be nothing at once.
        plain("times 0 {times 1 {times 1 {" + P + "}}}", 3, 0);
        plain("times 0 {if rain {after 0 {" + P + "}} else {" + P + "}}", 3, 0);
        // The parts are alike only when both are PLAIN.
        plain("if rain {times 1 {" + P + "}} else {after 0 {" + P + "}}", 3, 1);
        s.of("\"after 0\" and \"times 1\" are what is in them;");
        plain("after 0 {" + P + "}", 1, 1);
        plain("times 1 {" + P + "}", 1, 1);
        plain("after 1 {" + P + "}", 0, 1);
        plain("times 2 {" + P + "}", 0, 1);
        plain("times 9 {" + P + "}", 0, 1);
        plain("after 0000 {times 0001 {" + P + "," + Q + "}}", 2, 2);
        plain("after 0 {".repeat(3) + "times 1 {".repeat(3) + P + "}".repeat(6), 6, 1);
        s.of("\"times 0\" is nothing;");
        plain("times 0 {" + P + "}", 1, 0);
        plain("times 0 {" + P + "}," + Q, 1, 1);
        plain("times 0 {times 2 {" + P + "}," + Q + "}", 1, 0);
        s.of("an \"after\" right in an \"after\" is one of both DAYS together;");
        plain("after 3 {after 4 {" + P + "}}", 1, 1);
        plain("after 399 {after 399 {" + P + "," + Q + "}}", 1, 2);
        plain("after 1 {".repeat(6) + P + "}".repeat(6), 5, 1);
        plain("after 3 {after 4 {" + P + "}," + Q + "}", 0, 2);
        plain("after 3 {" + Q + ",after 4 {" + P + "}}", 0, 2);
        plain("after 3 {after 4 {" + P + "},after 4 {" + P + "}}", 0, 2);
        plain("after 3 {times 2 {after 4 {" + P + "}}}", 0, 1);
        plain("after 3 {if rain {after 4 {" + P + "}}}", 0, 1);
        plain("if rain {after 3 {after 4 {" + P + "}}} else {after 5 {after 2 {" + P + "}}}", 3, 1);
        plain("if rain {after 3 {after 4 {" + P + "}}} else {after 5 {after 3 {" + P + "}}}", 2, 2);
        alike();
    }

    private void alike() {
        s.of("an \"if\" or \"choice\" whose two parts are just alike (PLAIN, without \"choice\" in them) is that;");
        for (String[] kind : new String[][] {{"if rain {", "} else {"}, {"choice a {", "} or {"}}) {
            plain(kind[0] + P + kind[1] + P + "}", 1, 1);
            plain(kind[0] + P + "," + Q + kind[1] + P + "," + Q + "}", 1, 2);
            plain(kind[0] + P + "," + Q + kind[1] + Q + "," + P + "}", 0, 4);
            plain(kind[0] + P + kind[1] + P + "," + P + "}", 0, 3);
            plain(kind[0] + P + "," + P + kind[1] + P + "}", 0, 3);
            plain(kind[0] + P + "}", 0, 1);
            plain(kind[0] + P + kind[1] + "choice b {" + P + "}}", 0, 2);
            plain(kind[0] + "choice b {" + P + "}" + kind[1] + "choice b {" + P + "}}", 0, 2);
            plain(kind[0] + P + ",choice b {" + P + "}" + kind[1] + P + ",choice b {" + P + "}}", 0, 4);
            plain(kind[0] + "after 1 {choice b {" + P + "}}" + kind[1] + "after 1 {choice b {" + P + "}}}", 0, 2);
            plain(kind[0] + "choice b {" + P + "} or {" + P + "}" + kind[1] + P + "}", 2, 1);
            plain(kind[0] + "times 0 {choice b {" + P + "}}," + P + kind[1] + P + "}", 2, 1);
        }
        // Each of what a LEAF tells of makes it another one.
        for (String other : new String[] {"hire a b mule 1 for 3 at 3 back 3", "sale c b mule 1 for 3 at 3", "sale a c mule 1 for 3 at 3",
            "sale a b work 1 for 3 at 3", "sale a b mule 2 for 3 at 3", "sale a b mule 1 for 4 at 3",
            "sale a b mule 1 for 3 at 4", "sale a b mule 1 for 3 at 3 paid 4"}) {
            plain("if rain {sale a b mule 1 for 3 at 3} else {" + other + "}", 0, 2);
        }
        plain("if rain {gift a b mule 1 at 3} else {pass a b mule 1 at 3}", 0, 2);
        plain("if rain {after 2 {" + P + "}} else {after 3 {" + P + "}}", 0, 2);
        plain("if rain {after 2 {" + P + "}} else {times 2 {" + P + "}}", 0, 2);
        plain("if rain {after 2 {" + P + "}} else {after 2 {" + P + "}}", 1, 1);
        plain("if rain {if war {" + P + "}} else {if war {" + P + "}}", 1, 1);
        plain("if rain {if war {" + P + "}} else {if dear {" + P + "}}", 0, 2);
        plain("if rain {if war {" + P + "} else {" + Q + "}} else {if war {" + Q + "} else {" + P + "}}", 0, 4);
        plain("if rain {if war {" + P + "," + Q + "}} else {if war {" + P + "} else {" + Q + "}}", 0, 4);
        plain("if rain {after 2 {" + P + "}," + Q + "} else {after 2 {" + P + "," + Q + "}}", 0, 4);
        plain("if rain {if war {" + P + "} else {" + Q + "}," + Q + "} else {if war {" + P + "} else {" + Q + "," + Q + "}}", 0, 6);
        plain("if rain {after 3 {times 2 {" + P + "}," + Q + "}} else {after 3 {times 2 {" + P + "," + Q + "}}}", 0, 4);
        plain("if rain {if rain {" + P + "} else {" + P + "}} else {if war {" + P + "} else {" + P + "}}", 3, 1);
    }

    private void plainByWhatIsLeft() {
        s.of("one without any part left is nothing;");
        plain("if rain {times 0 {" + P + "}}", 2, 0);
        plain("choice a {times 0 {" + P + "}}", 2, 0);
        plain("if rain {times 0 {" + P + "}} else {times 0 {" + Q + "}}", 3, 0);
        plain("choice a {times 0 {" + P + "}} or {times 0 {" + Q + "}}", 3, 0);
        plain("if rain {times 0 {" + P + "}} else {" + Q + "}", 1, 1);
        plain("if rain {" + P + "} else {times 0 {" + Q + "}}", 1, 1);
        plain("choice a {times 0 {" + P + "}} or {" + Q + "}", 1, 1);
        plain("if rain {times 0 {choice a {" + P + "}}} else {times 0 {choice a {" + P + "}}}", 3, 0);
        s.of("what has nothing in it is nothing (\"after\", \"times\").");
        plain("after 3 {times 0 {" + P + "}}", 2, 0);
        plain("times 3 {times 0 {" + P + "}}", 2, 0);
        plain("after 0 {times 0 {" + P + "}}", 2, 0);
        plain("times 1 {times 0 {" + P + "}}", 2, 0);
        plain("times 0 {times 0 {" + P + "}}", 2, 0);
        plain("after 3 {after 4 {times 0 {" + P + "}}}", 3, 0);
        plain("times 3 {if rain {times 0 {" + P + "}}}", 3, 0);
        plain("after 3 {times 0 {" + P + "},times 0 {" + Q + "}}", 3, 0);
        s.of("It tells how many STEPS, and how many LEAVES are left.");
        String twelve = Check.repeat(P, 12, ",");
        plain(twelve, 0, 12);
        plain("times 0 {" + twelve + "}", 1, 0);
        plain("times 1 {" + twelve + "}", 1, 12);
        plain(Check.repeat("times 0{" + P + "}", 12, ","), 12, 0);
        plain("if rain {" + Check.repeat(P, 6, ",") + "} else {" + Check.repeat(P, 6, ",") + "}", 1, 6);
    }

    private void plainInRows() {
        s.of("(An ALL that is put in place of a PART is in the row there; what is nothing is left out of it, both without a STEP.)");
        plain("if rain {times 1 {" + P + "," + Q + "}," + P + "} else {" + P + "," + Q + "," + P + "}", 2, 3);
        plain("if rain {" + P + ",after 0 {" + Q + "," + P + "}} else {" + P + "," + Q + "," + P + "}", 2, 3);
        plain("if rain {" + P + ",times 0 {" + Q + "}," + P + "} else {" + P + "," + P + "}", 2, 2);
        plain("after 3 {times 0 {" + P + "},after 4 {" + Q + "}}", 2, 1);
        plain("after 3 {after 0 {after 4 {" + P + "}}}", 2, 1);
        plain("after 3 {times 1 {after 4 {" + P + "}," + Q + "}}", 1, 2);
        plain("after 3 {if rain {after 4 {" + P + "}} else {after 4 {" + P + "}}}", 2, 1);
    }

    private void same(String one, String other, int want) {
        LoanNames x = new LoanNames();
        s.due("deal " + one, Check.deal(x, one), 0);
        s.due("deal " + other, Check.deal(x, other), 1);
        s.due("same " + one + " / " + other, x.same(0, 1), want);
        s.due("same " + other + " / " + one, x.same(1, 0), want);
    }

    private void same() {
        s.of("Two DEALS are the SAME, if by all CODES (EVENTS all, CHOICES as many as the one with more has; spare ones count for nothing)");
        same(P, P, -1);
        same(P, "if flood {" + P + "} else {" + P + "}", -1);
        same(P, "if flood {" + P + "," + Q + "} else {" + P + "}", 16);
        same("choice a {" + P + "}", "choice h {" + P + "}", -1);
        same(P, "choice a {" + P + "} or {" + P + "}", -1);
        same("choice a {" + P + "}", "choice a {choice b {choice c {" + P + "} or {" + P + "}} or {" + P + "}}", -1);
        String three = "choice a {" + P + "},choice b {" + P + "},choice c {" + P + "}";
        same(three, three, -1);
        same(three, "choice a {" + P + "},choice b {" + P + "},choice c {" + P + "} or {if flood {" + P + "}}", 128 + 16);
        same("choice a {" + P + "}", three, 0);
        same("choice a {" + P + "}", "choice b {choice a {" + P + "}}", 64);
        s.of("for all DAYS, HANDS and THINGS as much passes from each to each other one;");
        same(P, "pass a b coin 1 at 1,gift a b coin 1 at 1", -1);
        same(P, "times 2 {pass a b coin 1 at 1}", -1);
        same(P, "after 1 {pass a b coin 2 at 0}", -1);
        same("pass a b coin 0 at 1", "times 0 {" + Q + "}", -1);
        same("sale a b mule 3 for 4 at 5 paid 6", "pass b a coin 4 at 6,gift a b mule 3 at 5", -1);
        same("hire a b mule 3 for 4 at 5 back 5", "sale b a mule 3 for 0 at 5,sale a b mule 3 for 4 at 5", -1);
        for (String other : new String[] {"pass a b coin 3 at 1", "pass a b coin 1 at 1", "pass a b coin 2 at 0",
            "pass a b coin 2 at 2", "pass c b coin 2 at 1", "pass a c coin 2 at 1", "pass b a coin 2 at 1",
            "pass a b mule 2 at 1", P + "," + P, "pass a b coin 3 at 1,pass b a coin 1 at 1",
            "pass a c coin 2 at 1,pass c b coin 2 at 1", "times 0 {" + P + "}"}) {
            same(P, other, 0);
        }
        sameByEach();
        s.of("else the least CODE by which they part.");
        same(P, "if dies {" + Q + "} else {" + P + "}", 1);
        same("if dies {" + P + "}", "if flood {" + P + "}", 1);
        same("if dies {if flood {" + P + "}}", "times 0 {" + P + "}", 17);
        same("if flood {if dear {if war {if rain {if dies {" + P + "}}}}}", "times 0 {" + P + "}", 31);
        same(P, "choice a {" + P + "} or {" + Q + "}", 32);
        same("choice a {" + P + "} or {" + Q + "}", "choice a {" + Q + "} or {" + P + "}", 0);
        same("times 0 {" + P + "}", "choice a {times 0 {" + P + "}} or {choice b {times 0 {" + P + "}} or {choice c {times 0 {"
            + P + "}} or {if flood {if dies {" + P + "}}}}}", 128 + 64 + 32 + 17);
    }

    /** No two of 24 DEALS are the SAME that each pass the same by another DAY, HANDS or THING. */
    private void sameByEach() {
        String[] hands = {"a b", "a c", "b a", "b c", "h a", "h g"};
        String[] deals = new String[24];
        for (int i = 0; i < 24; i++) {
            deals[i] = "pass " + hands[i % 6] + (i % 12 < 6 ? " coin" : " mule") + " 2 at " + i / 12;
        }
        for (int one = 0; one < 24; one++) {
            LoanNames x = s.told(deals);
            for (int other = 0; other < 24; other++) {
                s.due("same " + deals[one] + " / " + deals[other], x.same(one, other), one == other ? -1 : 0);
            }
        }
        // As many rows as can be, each by a DAY of its own: no two of these share one.
        StringBuilder first = new StringBuilder();
        StringBuilder second = new StringBuilder();
        for (int i = 0; i < 12; i++) {
            first.append(i == 0 ? "" : ",").append("hire a b mule 1 for 1 at ").append(i).append(" back ").append(20 + i);
            second.append(i == 0 ? "" : ",").append("hire b a work 1 for 1 at ").append(100 + i).append(" back ").append(120 + i);
        }
        LoanNames full = s.told(first.toString(), second.toString(), first.toString(), "after 200{" + first + "}");
        for (int round = 0; round < 20; round++) {
            s.due("full and others", full.same(0, 1), 0);
            s.due("full and others", full.same(2, 1), 0);
            s.due("full and others", full.same(3, 2), 0);
            s.due("full and the SAME", full.same(0, 2), -1);
        }
    }
}
