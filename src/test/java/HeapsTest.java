/** Promises 31 to 33: GROUPS of DEALS that hang together, and counts. */
public final class HeapsTest {
    private static final Check CHECK = new Check();

    public static void main(String[] args) {
        hangingByDays();
        hangingByThings();
        hangingByFamilies();
        hangingOnOthers();
        groups();
        groupsOfMany();
        counts();
        CHECK.end();
    }

    private static void due(String what, long got, long want) {
        CHECK.due(what, got, want);
    }

    private static void hangingByDays() {
        LoanNames x = new LoanNames();
        Check.deal(x, "gift a b mule 1 at 0", 10);
        Check.deal(x, "gift a b mule 1 at 300", 14);
        due("3 days", x.heap(3, -1), 2);
        due("4 days", x.heap(4, -1), 1);
        due("GROUP of the second", x.heap(3, 1), 1);
        due("GROUP of the second by 4", x.heap(4, 1), 0);
        due("GROUP of the first", x.heap(3, 0), 0);
        due("all days", x.heap(Integer.MAX_VALUE, -1), 1);
        due("n below 0", x.heap(-1, -1), -1);
        due("no such DEAL", x.heap(3, 2), -1);
        due("DEAL -2", x.heap(3, -2), -1);
        due("group of NONE", x.group(3, -1), -1);
        due("group of no such", x.group(3, 2), -1);
        due("group by n below 0", x.group(-1, 0), -1);
    }

    private static void two(String one, String other, int heaps) {
        LoanNames x = new LoanNames();
        Check.deal(x, one);
        Check.deal(x, other);
        due("heaps of " + one + " / " + other, x.heap(0, -1), heaps);
    }

    private static void hangingByThings() {
        two("gift a b mule 1 at 0", "gift a b cloth 1 at 0", 2);
        two("gift a b coin 1 at 0", "gift a b coin 1 at 0", 2);
        two("sale a b mule 1 for 1 at 0", "sale a b cloth 1 for 1 at 0", 2);
        two("gift a b coin 1 at 0,gift a b grain 1 at 0", "times 0 {hire a c grain 1 for 1 at 0 back 0}", 1);
    }

    private static void hangingByFamilies() {
        two("gift a b mule 1 at 0", "gift c d mule 1 at 0", 2);
        two("gift a b mule 1 at 0", "gift c b mule 1 at 0", 1);
        two("gift a b mule 1 at 0,pass a e coin 1 at 0", "gift c d mule 1 at 0,pass e d coin 1 at 0", 1);
        two("choice c {gift a b mule 1 at 0}", "choice a {gift c d mule 1 at 0}", 2);
        LoanNames x = new LoanNames();
        Check.deal(x, "gift a b mule 1 at 0");
        Check.deal(x, "gift c d mule 1 at 0");
        due("heaps at first", x.heap(0, -1), 2);
        x.family(3, 0);
        due("heaps of FAMILIES", x.heap(0, -1), 1);
    }

    private static void hangingOnOthers() {
        LoanNames x = new LoanNames();
        Check.deal(x, "gift a b mule 1 at 0", 0);
        Check.deal(x, "gift c d mule 1 at 0", 9);
        Check.deal(x, "gift e f mule 1 at 0", 3);
        Check.deal(x, "gift d e mule 1 at 0", 6);
        Check.deal(x, "gift b e mule 1 at 0", 0);
        due("by 3", x.heap(3, -1), 1);
        due("the last but one's", x.heap(3, 3), 0);
        due("by 2", x.heap(2, -1), 4);
        due("the last one's", x.heap(2, 4), 0);
        due("the second's", x.heap(2, 1), 1);
    }

    private static void groups() {
        LoanNames x = new LoanNames();
        Check.deal(x, "sale d e mule 1 for 10 at 0", 5);
        Check.deal(x, "gift a b cloth 1 at 0", 5);
        Check.deal(x, "sale e d mule 1 for 12 at 0 paid 9", 7);
        due("apart", x.group(1, 0), -1);
        due("together", x.group(2, 0), 43);
        due("of the other", x.group(2, 2), 43);
        due("of another GROUP", x.group(2, 1), -1);
        due("the BUNDLE is another thing", x.count(4), 0);
        due("no LOAN", x.loan(), -1);
        x.family(4, 3);
        due("within a FAMILY", x.group(2, 0), -1);
    }

    private static void groupsOfMany() {
        LoanNames x = new LoanNames();
        Check.deal(x, "gift a b mule 0 at 0,pass a b coin 1 at 0,pass b a coin 2 at 1");
        for (int i = 1; i < 6; i++) {
            Check.deal(x, "gift a b mule 0 at 0");
        }
        due("six", x.group(0, 5), 1);
        Check.deal(x, "gift a b mule 0 at 0", 9);
        due("six and one", x.group(8, 0), 1);
        due("seven", x.group(9, 0), -1);
        LoanNames y = new LoanNames();
        String three = "choice a {gift a b mule 0 at 0},choice a {gift a b mule 0 at 0},choice a {gift a b mule 0 at 0}";
        Check.deal(y, "pass a b coin 1 at 0,pass b a coin 2 at 1," + three, 0);
        Check.deal(y, three, 1);
        Check.deal(y, three, 3);
        due("LOOKED at", y.group(1, 1), 1);
        due("not LOOKED at", y.group(2, 1), -1);
    }

    private static void counts() {
        LoanNames x = Check.bundled("choice a {gift a b mule 1 at 0},gift a b mule 1 at 0", "gift a b mule 1 at 0");
        Check.law(x, "");
        Check.law(x, "bar any;bar any;bar any;");
        Check.word(x, "bar any;");
        x.offer(1);
        x.honest();
        x.honest();
        Check.deal(x, "nothing");
        Check.feed(x, "x");
        int[] want = {2, 2, 3, 1, 2, 1, 2, 3, 1, 20};
        for (int what = 0; what < 10; what++) {
            due("count " + what, x.count(what), want[what]);
        }
        due("count 10", x.count(10), -1);
        due("count -1", x.count(-1), -1);
    }
}
