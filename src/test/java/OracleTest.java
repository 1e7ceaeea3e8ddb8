import java.nio.charset.StandardCharsets;

/** Long runs of calls, right and wrong ones, held against the Oracle. */
public final class OracleTest {
    private static final int RUNS = 500;
    // An object is promised nothing behind its 512th call; telling a DEAL and asking of it are some forty.
    private static final int CALLS_TO_TELL = 300;
    private static final int CALLS = 460;

    private final Check check;
    private final Texts texts;
    private final int run;
    private final LoanNames x = new LoanNames();
    private final Oracle o = new Oracle();
    private final int mostOffered;
    private int calls;
    private String latest = "gift a b coin 1 at 1";

    private OracleTest(Check check, int run, long seed) {
        this.check = check;
        this.run = run;
        texts = new Texts(seed);
        texts.hands = 2 + texts.below(4);
        texts.things = 1 + texts.below(3);
        texts.events = 1 + texts.below(texts.oneIn(4) ? 5 : 2);
        mostOffered = run % 40 == 0 ? 10 : 6;
    }

    public static void main(String[] args) {
        int runs = args.length > 0 ? Integer.parseInt(args[0]) : RUNS;
        int from = args.length > 1 ? Integer.parseInt(args[1]) : 0;
        Check check = new Check();
        for (int run = from; run < from + runs; run++) {
            new OracleTest(check, run, 7919L * run + 1).go();
            if (run % 8 == 0) {
                new OracleTest(check, run, 104729L * run + 5).goSly();
            }
        }
        check.end();
    }

    private void go() {
        int mostDeals = 3 + texts.below(texts.oneIn(5) ? 24 : 6);
        for (int i = 0; i < mostDeals && calls < CALLS_TO_TELL; i++) {
            tellDeal();
        }
        for (int i = 0; i < CALLS && calls < CALLS && check.wrong() == 0; i++) {
            call();
        }
    }

    /** Many OFFERED DEALS of two or three HANDS, so that there are many SLY sets and some WORDS that stop them. */
    private void goSly() {
        texts.hands = 2 + texts.below(2);
        texts.things = 2 + texts.below(3);
        for (int i = 0; i < 14; i++) {
            int n = tell(texts.deal());
            x.deal(n, i);
            o.deal(n, i);
        }
        for (int i = 0; i < 6; i++) {
            int n = tell(texts.rules(2));
            x.word(n);
            o.word(n);
        }
        for (int i = 0; i < 14; i++) {
            due("offer", x.offer(i), o.offer(i));
        }
        for (int round = 0; round < 4; round++) {
            for (int k = 6; k > 0; k -= 1 + texts.below(4)) {
                due("sly " + k, x.sly(k, 0), o.sly(k, 0));
                due("set " + k, x.sly(k, 1), o.sly(k, 1));
                due("stop " + k, x.stop(k), o.stop(k));
            }
            changeForSly();
        }
    }

    private void changeForSly() {
        int a = texts.below(8);
        int b = texts.below(3);
        if (texts.oneIn(2)) {
            due("clear", x.clear(), o.clear());
            due("add", x.add(a), o.add(a));
            due("honest", x.honest(), o.honest());
        } else if (texts.oneIn(2)) {
            int n = tell(texts.rules(1));
            due("law", x.law(n), o.law(n));
        } else {
            check.due("family", x.family(b, b + 3), o.family(b, b + 3));
        }
    }

    private void due(String what, long got, long want) {
        calls++;
        check.due("run " + run + ": " + what, got, want);
    }

    private int tell(String text) {
        byte[] bytes = text.getBytes(StandardCharsets.ISO_8859_1);
        int[] n = Check.numbers(bytes);
        for (int i = 0; i < n.length; i += 5) {
            due("feed", x.feed(n[i], n[i + 1], n[i + 2], n[i + 3], n[i + 4]),
                    o.feed(n[i], n[i + 1], n[i + 2], n[i + 3], n[i + 4]));
        }
        return bytes.length;
    }

    private int near(int n) {
        return texts.oneIn(25) ? n + texts.below(60) - 30 : n;
    }

    private void tellDeal() {
        String text = texts.oneIn(3) ? texts.likeIt(latest) : texts.oneIn(4) ? texts.nested() : texts.deal();
        latest = text.length() < 150 ? text : latest;
        if (texts.oneIn(5)) {
            text = texts.spoilt(text);
        }
        int n = near(tell(text));
        int signed = texts.oneIn(20) ? texts.below(900) - 300 : texts.below(12);
        due("deal " + text, x.deal(n, signed), o.deal(n, signed));
        due("fault of " + text, x.fault(), o.fault());
        int last = o.count(0) - 1;
        for (int what = -1; what < 7; what++) {
            due("size " + what + " of " + text, x.size(last, what), o.size(last, what));
        }
        for (int what = -1; what < 3; what++) {
            due("plain " + what + " of " + text, x.plain(last, what), o.plain(last, what));
        }
    }

    private void tellRules() {
        boolean word = !texts.oneIn(4);
        String text = texts.rules(texts.oneIn(6) ? 18 : 3);
        if (texts.oneIn(6)) {
            text = texts.spoilt(text);
        }
        if (word && o.count(3) > 5 && !texts.oneIn(6)) {
            return;
        }
        int n = near(tell(text));
        if (word) {
            due("word " + text, x.word(n), o.word(n));
        } else {
            due("law " + text, x.law(n), o.law(n));
        }
        due("fault of " + text, x.fault(), o.fault());
    }

    /** A number of which there are so many, sometimes one beside them. */
    private int of(int many) {
        return texts.oneIn(12) ? texts.below(many + 4) - 2 : texts.below(Math.max(1, many));
    }

    /** A CODE, mostly one that there is. */
    private int someCode() {
        return texts.oneIn(9) ? texts.below(1 << 20) : texts.below((32 << o.count(8)) + 1);
    }

    private void call() {
        int deals = o.count(0);
        int a;
        int b;
        int c;
        switch (texts.below(34)) {
            case 0:
                a = of(8);
                b = of(8);
                if (texts.oneIn(3)) {
                    check.due("family", x.family(a, b), o.family(a, b));
                }
                break;
            case 1:
                if (texts.oneIn(4)) {
                    tellDeal();
                }
                break;
            case 2:
                tellRules();
                break;
            case 3:
                due("fault", x.fault(), o.fault());
                break;
            case 4:
                a = of(deals);
                b = of(6);
                due("size", x.size(a, b), o.size(a, b));
                break;
            case 5:
            case 6:
                a = of(deals);
                b = of(4);
                c = of(8);
                due("leaf", x.leaf(a, b, c), o.leaf(a, b, c));
                break;
            case 7:
                a = of(deals);
                b = of(2);
                due("plain", x.plain(a, b), o.plain(a, b));
                break;
            case 8:
                a = of(deals);
                b = of(deals);
                due("same " + a + " " + b, x.same(a, b), o.same(a, b));
                break;
            case 9:
            case 10:
                a = of(deals);
                due("add", x.add(a), o.add(a));
                break;
            case 11:
                if (texts.oneIn(3)) {
                    due("clear", x.clear(), o.clear());
                }
                break;
            default:
                callOnBundle();
        }
    }

    private void callOnBundle() {
        int a;
        int b;
        int c;
        int d;
        switch (texts.below(14)) {
            case 0:
                a = someCode();
                b = texts.below(20) - 2;
                c = of(5);
                due("passed " + a + " " + b + " " + c, x.passed(a, b, c), o.passed(a, b, c));
                due("rows", x.passed(a, -1, 0), o.passed(a, -1, 0));
                break;
            case 1:
                a = someCode();
                b = of(8);
                c = of(6);
                d = texts.oneIn(2) ? -1 : texts.oneIn(20) ? 9999 + texts.below(2) : texts.below(10) - 2;
                due("net", x.net(a, b, c, d), o.net(a, b, c, d));
                break;
            case 2:
                due("codes", x.codes(), o.codes());
                break;
            case 3:
                dueLending(of(8), of(8));
                break;
            case 4:
                a = o.loan();
                if (a >= 0) {
                    dueLending(a / 10, a % 10);
                } else {
                    dueLending(texts.below(texts.hands), texts.below(texts.hands));
                }
                break;
            case 5:
                due("loan", x.loan(), o.loan());
                break;
            case 6:
                due("step", x.step(), o.step());
                break;
            case 7:
                a = of(8);
                b = of(5);
                due("bears", x.bears(a, b), o.bears(a, b));
                break;
            case 8:
                a = of(8);
                b = of(8);
                c = of(2);
                due("cost", x.cost(a, b, c), o.cost(a, b, c));
                break;
            case 9:
                a = of(3);
                due("breach " + a, x.breach(a), o.breach(a));
                break;
            case 10:
                a = of(o.count(3));
                due("bars " + a, x.bars(a), o.bars(a));
                break;
            default:
                callOnSets();
        }
    }

    private void dueLending(int l, int b) {
        due("lends " + l + " " + b, x.lends(l, b), o.lends(l, b));
        for (int what = -1; what < 5; what++) {
            due("price " + l + " " + b + " " + what, x.price(l, b, what), o.price(l, b, what));
        }
    }

    private void callOnSets() {
        int a;
        int b;
        switch (texts.below(9)) {
            case 0:
                a = of(o.count(0));
                if (o.count(5) < mostOffered || texts.oneIn(40)) {
                    due("offer", x.offer(a), o.offer(a));
                }
                break;
            case 1:
                a = of(3) + texts.below(5);
                b = of(2);
                due("sly " + a + " " + b, x.sly(a, b), o.sly(a, b));
                break;
            case 2:
                if (texts.oneIn(3)) {
                    due("honest", x.honest(), o.honest());
                }
                break;
            case 3:
                a = of(o.count(6));
                b = texts.oneIn(2) ? of(2) : 10 + of(3);
                due("innocent", x.innocent(a, b), o.innocent(a, b));
                break;
            case 4:
                a = of(o.count(6));
                due("parts", x.parts(a), o.parts(a));
                break;
            case 5:
                a = of(3) + texts.below(5);
                if (texts.oneIn(2)) {
                    due("stop " + a, x.stop(a), o.stop(a));
                }
                break;
            case 6:
                a = of(14);
                b = texts.oneIn(3) ? -1 : of(o.count(0));
                due("heap " + a + " " + b, x.heap(a, b), o.heap(a, b));
                break;
            case 7:
                a = of(14);
                b = of(o.count(0));
                due("group " + a + " " + b, x.group(a, b), o.group(a, b));
                break;
            default:
                a = of(10);
                due("count " + a, x.count(a), o.count(a));
        }
    }
}
