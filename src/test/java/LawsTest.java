/** Promises 23 and 24: statements that BAR a BUNDLE. */
public final class LawsTest {
    private static final Check CHECK = new Check();

    public static void main(String[] args) {
        single();
        order();
        ties();
        within();
        breaches();
        fullBundle();
        words();
        CHECK.end();
    }

    private static void due(String what, long got, long want) {
        CHECK.due(what, got, want);
    }

    /** The LEAVES by which a statement BARS, NONE for both if it doesn't. */
    private static void bars(String statement, int first, int second, String... deals) {
        LoanNames x = Check.bundled(deals);
        due("law " + statement, Check.law(x, statement), 0);
        due("word " + statement, Check.word(x, statement), 0);
        due("statement of " + statement, x.breach(0), first == -1 ? -1 : 0);
        due("first of " + statement, x.breach(1), first);
        due("second of " + statement, x.breach(2), second);
        due("bars by " + statement, x.bars(0), first == -1 ? 0 : 1);
    }

    private static void single() {
        String[] deals = {"pass a b coin 1 at 3,times 0 {gift a b mule 1 at 2}",
            "if rain {sale b a grain 1 for 2 at 1},choice a {hire a b mule 1 for 1 at 0 back 9}"};
        bars("bar any;", 0, -1, deals);
        bars("bar pass;", 0, -1, deals);
        bars("bar gift;", 1, -1, deals);
        bars("bar sale;", 2, -1, deals);
        bars("bar hire;", 3, -1, deals);
        bars("bar any of mule;", 1, -1, deals);
        bars("bar hire of mule;", 3, -1, deals);
        bars("bar sale of mule;", -1, -1, deals);
        bars("bar sale of coin;", -1, -1, deals);
        bars("bar any of house;", -1, -1, deals);
        bars("bar any;", -1, -1);
    }

    private static void order() {
        bars("bar gift then sale;", 0, 1, "gift a b mule 1 at 5,sale a b mule 1 for 1 at 6");
        bars("bar gift then sale;", 0, 1, "gift a b mule 1 at 5,sale a b mule 1 for 1 at 5");
        bars("bar gift then sale;", -1, -1, "gift a b mule 1 at 5,sale a b mule 1 for 1 at 4 paid 9");
        bars("bar gift then sale;", 1, 0, "sale a b mule 1 for 1 at 6,gift a b mule 1 at 5");
        bars("bar gift then sale;", -1, -1, "sale a b mule 1 for 1 at 5,gift a b mule 1 at 5");
        bars("bar gift then sale;", 0, 1, "gift a b mule 1 at 5", "sale a b mule 1 for 1 at 5");
        bars("bar gift then sale;", -1, -1, "sale a b mule 1 for 1 at 5", "gift a b mule 1 at 5");
        bars("bar gift then sale;", 1, 0, "after 1 {sale a b mule 1 for 1 at 5}", "gift a b mule 1 at 5");
        bars("bar gift then gift;", -1, -1, "gift a b mule 1 at 5");
        bars("bar gift of mule then any of cloth;", 1, 0, "gift a b cloth 1 at 5,gift a b mule 1 at 0,pass a b cloth 1 at 3");
        bars("bar any then any;", 0, 2, "gift a b mule 1 at 5,gift a b mule 1 at 4,gift a b mule 1 at 6");
    }

    private static void ties() {
        String sale = "sale a b mule 1 for 5 at 0";
        bars("bar sale then any back;", 0, 1, sale, "gift b a cloth 1 at 1");
        bars("bar sale then any back;", -1, -1, sale, "gift a b cloth 1 at 1");
        bars("bar sale then any back;", -1, -1, sale, "gift c a cloth 1 at 1");
        bars("bar sale then any back;", -1, -1, sale, "gift b c cloth 1 at 1");
        bars("bar sale then any same;", 0, 1, sale, "gift c d mule 3 at 1");
        bars("bar sale then any same;", -1, -1, sale, "gift c d cloth 3 at 1");
        bars("bar any then any more;", 0, 1, sale, "hire c d cloth 3 for 6 at 1 back 1");
        bars("bar any then any more;", -1, -1, sale, "sale c d cloth 3 for 5 at 1");
        bars("bar any then any more;", -1, -1, sale, "gift c d cloth 9 at 1");
        bars("bar any then any more;", 0, 1, "gift c d cloth 9 at 0", "sale a b mule 1 for 1 at 0");
        bars("bar any then any more;", -1, -1, "gift c d cloth 9 at 0", "sale a b mule 1 for 0 at 0");
        bars("bar sale then sale more same back;", 0, 1, sale, "sale b a mule 1 for 6 at 0");
        bars("bar sale then sale more same back;", 0, 3, sale, "sale b a mule 1 for 4 at 0", "sale b a house 1 for 6 at 0",
                "sale b a mule 1 for 6 at 0");
        LoanNames x = Check.bundled(sale, "gift c d mule 1 at 1");
        Check.law(x, "bar sale then gift back;");
        due("other FAMILIES", x.breach(0), -1);
        x.family(2, 1);
        due("half the same", x.breach(0), -1);
        x.family(3, 0);
        due("the same FAMILIES", x.breach(0), 0);
    }

    private static void within() {
        String[] deals = {"gift a b mule 1 at 3", "after 7 {gift a b mule 1 at 0}"};
        bars("bar gift then gift within 3;", -1, -1, deals);
        bars("bar gift then gift within 4;", 0, 1, deals);
        bars("bar gift then gift within 0;", -1, -1, deals);
        bars("bar gift then gift within 0;", 0, 1, "gift a b mule 1 at 3,gift a b mule 1 at 3");
        bars("bar gift then gift back within 9999;", -1, -1, deals);
        bars("bar hire then sale within 2;", -1, -1, "hire a b mule 1 for 1 at 0 back 5,sale a b mule 1 for 1 at 5");
    }

    private static void breaches() {
        LoanNames x = Check.bundled("gift a b mule 1 at 3,pass b a coin 1 at 2");
        due("bare", x.breach(0), -1);
        Check.law(x, "bar hire;bar pass then gift;bar any;");
        due("statement", x.breach(0), 1);
        due("first", x.breach(1), 1);
        due("second", x.breach(2), 0);
        due("what 3", x.breach(3), -1);
        due("what -1", x.breach(-1), -1);
        Check.law(x, "bar any;");
        due("the LAW told last", x.breach(0), 0);
        due("its LEAF", x.breach(1), 0);
        due("no second", x.breach(2), -1);
        Check.law(x, "bar");
        due("a FAULT changes no LAW", x.breach(0), 0);
        Check.law(x, "");
        due("a bare LAW", x.breach(0), -1);
        Check.law(x, "bar any;");
        x.clear();
        due("no BUNDLE", x.breach(0), -1);
    }

    /** Six DEALS of twelve LEAVES each are as many as there can be. */
    private static void fullBundle() {
        String twelve = Check.repeat("gift a b mule 1 at 3", 12, ",");
        String last = Check.repeat("gift a b mule 1 at 3", 11, ",") + ",hire a b mule 1 for 1 at 3 back 4";
        bars("bar any of coin;bar hire then any;", -1, -1, twelve, twelve, twelve, twelve, twelve, last);
        bars("bar gift then hire;", 0, 71, twelve, twelve, twelve, twelve, twelve, last);
        bars("bar hire;", 71, -1, twelve, twelve, twelve, twelve, twelve, last);
    }

    private static void words() {
        LoanNames x = Check.bundled("gift a b mule 1 at 3");
        Check.word(x, "bar hire;bar pass;");
        Check.word(x, "bar hire;bar gift;");
        due("no statement", x.bars(0), 0);
        due("some statement", x.bars(1), 1);
        due("no such", x.bars(2), -1);
        due("-1", x.bars(-1), -1);
        due("WORDS are no LAW", x.breach(0), -1);
    }
}
