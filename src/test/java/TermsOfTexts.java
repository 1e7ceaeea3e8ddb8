/** The document's Terms of texts: tokens, DEALS and their FAULTS. */
final class TermsOfTexts {
    private static final String GIFT = "gift a b mule 1 at 1";
    private static final String[] THINGS = {"coin", "mule", "cloth", "house", "work", "grain"};
    private static final String[] EVENTS = {"dies", "rain", "war", "dear", "flood"};
    private static final String[] LEAVES = {GIFT, "pass a b coin 1 at 1", "sale a b mule 1 for 1 at 1",
        "hire a b mule 1 for 1 at 1 back 1"};

    private final Sentences s;

    TermsOfTexts(Sentences s) {
        this.s = s;
    }

    void hold() {
        s.under("What it is");
        calls();
        s.under("Terms");
        names();
        parts();
        smallWords();
        numbers();
        tokens();
        limits();
        faults();
    }

    private void calls() {
        s.of("An object is used for at most 512 calls after it has been made;");
        LoanNames x = new LoanNames();
        x.feed(0x67696674, 0x20612062, 0x206d756c, 0x65203120, 0x61742031);
        x.deal(20, 0);
        x.offer(0);
        for (int call = 4; call < 512; call += 4) {
            s.due("call " + call, x.add(0), 1);
            s.due("the next", x.net(0, 1, 1, 1), 1);
            s.due("the next", x.honest(), call < 28 ? call / 4 - 1 : -1);
            s.due("the next", x.clear(), 1);
        }
        s.due("the 512th", x.count(6), 6);
    }

    private void names() {
        s.of("HANDS 0 to 7 (a to h),");
        for (int hand = 0; hand < 8; hand++) {
            LoanNames x = s.well(gift(hand));
            s.due("first HAND", x.leaf(0, 0, 1), hand);
            s.due("second HAND", x.leaf(0, 0, 2), (hand + 1) % 8);
        }
        s.of("each of a FAMILY 0 to 7 (its own at first).");
        for (int hand = 0; hand < 8; hand++) {
            int other = (hand + 1) % 8;
            LoanNames x = s.well(gift(hand));
            s.due("FAMILIES at first", x.size(0, 4), 1 << hand | 1 << other);
            s.due("gets at first", x.net(0, other, 1, -1), 1);
            for (int family = 0; family < 8; family++) {
                s.due("a FAMILY", x.family(other, family), true);
                s.due("FAMILIES then", x.size(0, 4), 1 << hand | 1 << family);
            }
        }
        s.of("THINGS 0 coin, 1 mule, 2 cloth, 3 house, 4 work, 5 grain.");
        for (int thing = 0; thing < 6; thing++) {
            LoanNames x = s.well("gift a b " + THINGS[thing] + " 3 at 1");
            s.due("THING", x.leaf(0, 0, 3), thing);
            s.due("THING that passes", x.passed(0, 0, 3), thing);
            s.due("THING that is there then", x.net(0, 1, thing, -1), 3);
        }
        s.of("EVENTS 0 dies, 1 rain, 2 war, 3 dear, 4 flood.");
        for (int event = 0; event < 5; event++) {
            LoanNames x = s.well("if " + EVENTS[event] + " {pass a b coin 3 at 1}");
            s.due("EVENT named", x.size(0, 2), 1 << event);
            s.due("EVENT that comes", x.bears(1, event), 3);
            s.due("all others", x.passed(31 - (1 << event), -1, 0), 0);
        }
        s.of("A DEAL, up to 24, is a text: ALL.");
        LoanNames x = new LoanNames();
        for (int i = 0; i < 24; i++) {
            s.due("deal", Check.deal(x, GIFT), i);
        }
        s.due("the 25th", Check.deal(x, GIFT), -3);
    }

    private static String gift(int hand) {
        return "gift " + (char) ('a' + hand) + " " + (char) ('a' + (hand + 1) % 8) + " mule 1 at 1";
    }

    /** Tokens that come one by one: more must come but behind so many of them. */
    private void grows(String text, int... wholes) {
        String[] all = text.split(" ");
        StringBuilder now = new StringBuilder();
        for (int many = 0; many <= all.length; many++) {
            int told = many;
            if (java.util.Arrays.stream(wholes).anyMatch(whole -> whole == told)) {
                s.well(now.toString());
            } else {
                s.fault(now.toString(), now.length());
            }
            if (many < all.length) {
                now.append(many == 0 ? "" : " ").append(all[many]);
            }
        }
    }

    private void parts() {
        s.of("ALL: PART {\",\" PART}.");
        s.fault("", 0);
        s.fault(" \n", 2);
        s.fault(",", 0);
        s.fault(GIFT + ",", 21);
        s.fault("," + GIFT, 0);
        s.fault(GIFT + ",," + GIFT, 21);
        s.fault(GIFT + " " + GIFT, 21);
        s.due("LEAVES of three PARTS", s.well(GIFT + "," + GIFT + "," + GIFT).size(0, 0), 3);
        s.of("PART: \"pass\" TWO SO \"at\" DAY | \"gift\" TWO SO \"at\" DAY |");
        for (String form : new String[] {"pass", "gift"}) {
            grows(form + " a b mule 1 at 1", 7);
            s.fault(form + " a b mule 1 for 1 at 1", 16);
            s.fault(form + " a b mule 1 at 1 paid 1", 21);
            s.fault(form + " a b mule 1 at 1 back 1", 21);
        }
        s.of("\"sale\" TWO SO \"for\" NUMBER \"at\" DAY [\"paid\" DAY] |");
        grows("sale a b mule 1 for 2 at 3 paid 4", 9, 11);
        s.fault("sale a b mule 1 at 3", 16);
        s.fault("sale a b mule 1 for 2 paid 4", 22);
        s.fault("sale a b mule 1 for 2 at 3 back 4", 27);
        s.fault("sale a b mule 1 for 2 at 3 paid 4 paid 4", 34);
        s.of("\"hire\" TWO SO \"for\" NUMBER \"at\" DAY \"back\" DAY |");
        grows("hire a b mule 1 for 2 at 3 back 4", 11);
        s.fault("hire a b mule 1 at 3 back 4", 16);
        s.fault("hire a b mule 1 for 2 at 3 paid 4", 27);
        s.fault("hire a b mule 1 for 2 at 3,", 26);
        s.of("\"after\" DAY \"{\" ALL \"}\" | \"times\" TIMES \"{\" ALL \"}\" |");
        for (String outer : new String[] {"after", "times"}) {
            grows(outer + " 1 { gift a b mule 1 at 1 , gift a b mule 1 at 1 }", 19);
            s.fault(outer + " 1 {}", 9);
            s.fault(outer + " {" + GIFT + "}", 6);
            s.fault(outer + " rain {" + GIFT + "}", 6);
            s.fault(outer + " 1 {" + GIFT + "} else {" + GIFT + "}", 31);
            s.fault(outer + " 1 {" + GIFT + "}}", 30);
        }
        branches();
    }

    private void branches() {
        s.of("\"if\" EVENT \"{\" ALL \"}\" [\"else\" \"{\" ALL \"}\"] |");
        grows("if rain { gift a b mule 1 at 1 } else { gift a b mule 1 at 1 }", 11, 21);
        s.fault("if rain {}", 9);
        s.fault("if {" + GIFT + "}", 3);
        s.fault("if a {" + GIFT + "}", 3);
        s.fault("if rain {" + GIFT + "} or {" + GIFT + "}", 31);
        s.fault("if rain {" + GIFT + "} else " + GIFT, 36);
        s.fault("if rain {" + GIFT + "} else {}", 37);
        s.fault("if rain {" + GIFT + "} else {" + GIFT + "} else {" + GIFT + "}", 59);
        s.of("\"choice\" HAND \"{\" ALL \"}\" [\"or\" \"{\" ALL \"}\"].");
        grows("choice a { gift a b mule 1 at 1 } or { gift a b mule 1 at 1 }", 11, 21);
        s.fault("choice a {}", 10);
        s.fault("choice {" + GIFT + "}", 7);
        s.fault("choice rain {" + GIFT + "}", 7);
        s.fault("choice a {" + GIFT + "} else {" + GIFT + "}", 32);
        s.fault("choice a {" + GIFT + "} or " + GIFT, 35);
        s.fault("choice a {" + GIFT + "} or {}", 36);
        s.fault("choice a {" + GIFT + "} or {" + GIFT + "} or {" + GIFT + "}", 58);
    }

    private void smallWords() {
        s.of("TWO: HAND HAND (unlike: else a FAULT at the second).");
        for (char hand = 'a'; hand <= 'h'; hand++) {
            for (String form : new String[] {"pass", "gift", "sale", "hire"}) {
                s.fault(form + " " + hand + " " + hand + " mule 1 at 1", 7);
            }
        }
        s.fault("pass a mule 1 at 1", 7);
        s.of("SO: THING NUMBER.");
        s.fault("pass a b 1 coin at 1", 9);
        s.fault("pass a b coin at 1", 14);
        s.fault("pass a b coin 1 1 at 1", 16);
        s.of("HAND: a to h.");
        for (int sign = 0; sign < 256; sign++) {
            String text = "pass " + (char) sign + (sign == 'a' ? " b" : " a") + " coin 1 at 1";
            if (sign >= 'a' && sign <= 'h') {
                s.well(text);
            } else if (sign != ' ' && sign != '\n') {
                s.fault(text, 5);
            }
        }
        s.fault("pass aa b coin 1 at 1", 5);
        s.of("THING: coin, mule, cloth, house, work, grain.");
        for (String thing : THINGS) {
            s.well("pass a b " + thing + " 1 at 1");
            s.fault("pass a b " + thing + "s 1 at 1", 9);
            s.fault("pass a b " + thing.substring(0, thing.length() - 1) + " 1 at 1", 9);
            s.fault("pass a b " + thing.substring(1) + " 1 at 1", 9);
        }
        s.fault("pass a b a 1 at 1", 9);
        s.of("EVENT: dies, rain, war, dear, flood.");
        for (String event : EVENTS) {
            s.well("if " + event + " {" + GIFT + "}");
            s.fault("if " + event + "s {" + GIFT + "}", 3);
            s.fault("if " + event.substring(0, event.length() - 1) + " {" + GIFT + "}", 3);
            s.fault("if " + event.substring(1) + " {" + GIFT + "}", 3);
        }
    }

    private void numbers() {
        s.of("NUMBER: 0 to 9,999;");
        for (int number : new int[] {0, 1, 9998, 9999}) {
            LoanNames x = s.well("sale a b mule " + number + " for " + (9999 - number) + " at 0");
            s.due("how much", x.leaf(0, 0, 4), number);
            s.due("for", x.leaf(0, 0, 5), 9999 - number);
        }
        s.fault("sale a b mule 10000 for 1 at 1", 14);
        s.fault("sale a b mule 1 for 10000 at 1", 20);
        s.fault("hire a b mule 1 for 99999 at 1 back 1", 20);
        s.fault("sale a b mule -1 for 1 at 1", 14);
        s.of("DAY: 0 to 399,");
        for (int day : new int[] {0, 399}) {
            s.due("at", s.well("gift a b mule 1 at " + day).leaf(0, 0, 6), day);
            s.due("paid", s.well("sale a b mule 1 for 1 at 0 paid " + day).leaf(0, 0, 7), day);
            s.due("back", s.well("hire a b mule 1 for 1 at 0 back " + day).leaf(0, 0, 7), day);
            s.due("after", s.well("after " + day + " {gift a b mule 1 at 1}").leaf(0, 0, 6), day + 1);
        }
        s.fault("gift a b mule 1 at 400", 19);
        s.fault("sale a b mule 1 for 1 at 400", 25);
        s.fault("sale a b mule 1 for 1 at 399 paid 400", 34);
        s.fault("hire a b mule 1 for 1 at 399 back 400", 34);
        s.fault("after 400 {" + GIFT + "}", 6);
        s.fault("after 9999 {" + GIFT + "}", 6);
        s.of("behind \"paid\" and \"back\" not below the one behind \"at\";");
        s.due("paid on it", s.well("sale a b mule 1 for 1 at 9 paid 9").leaf(0, 0, 7), 9);
        s.due("back on it", s.well("hire a b mule 1 for 1 at 399 back 399").leaf(0, 0, 7), 399);
        s.fault("sale a b mule 1 for 1 at 9 paid 8", 32);
        s.fault("hire a b mule 1 for 1 at 399 back 398", 34);
        s.fault("hire a b mule 1 for 1 at 1 back 0", 32);
        // Not below the one of its own LEAF: what "after" does is alike for both.
        s.due("within an after", s.well("after 50 {sale a b mule 1 for 1 at 9 paid 10}").leaf(0, 0, 7), 60);
        s.fault("after 50 {sale a b mule 1 for 1 at 9 paid 8}", 42);
        s.well("sale a b mule 1 for 1 at 9,sale a b mule 1 for 1 at 3 paid 4");
        s.of("TIMES: 0 to 9");
        s.due("none", s.well("times 0 {" + GIFT + "}").passed(0, -1, 0), 0);
        s.due("nine", s.well("times 9 {" + GIFT + "}").passed(0, 0, 4), 9);
        s.fault("times 10 {" + GIFT + "}", 6);
        s.fault("times 9999 {" + GIFT + "}", 6);
        s.of("(each of one to four digits).");
        s.due("four digits", s.well("sale a b mule 0001 for 0002 at 0003 paid 0004").leaf(0, 0, 5), 2);
        s.due("four digits of after", s.well("after 0399 {" + GIFT + "}").leaf(0, 0, 6), 400);
        s.due("four digits of times", s.well("times 0009 {" + GIFT + "}").passed(0, 0, 4), 9);
        s.fault("sale a b mule 00001 for 1 at 1", 14);
        s.fault("sale a b mule 1 for 00001 at 1", 20);
        s.fault("sale a b mule 1 for 1 at 00001", 25);
        s.fault("sale a b mule 1 for 1 at 1 paid 00001", 32);
        s.fault("hire a b mule 1 for 1 at 1 back 00001", 32);
        s.fault("after 00001 {" + GIFT + "}", 6);
        s.fault("times 00001 {" + GIFT + "}", 6);
        s.fault("times 4294967297 {" + GIFT + "}", 6);
        s.fault("pass a b coin 18446744073709551617 at 1", 14);
    }

    private void tokens() {
        s.of("Tokens as long as they go: words of letters a to z, digits, signs;");
        s.fault("passa b coin 1 at 1", 0);
        s.fault("pas s a b coin 1 at 1", 0);
        s.fault("pass ab coin 1 at 1", 5);
        s.fault("pass a bcoin 1 at 1", 7);
        s.fault("pass a b coin 12 34 at 1", 17);
        s.fault("gift a b mule 1 at 1for", 20);
        s.fault("GIFT a b mule 1 at 1", 0);
        s.fault("gifT a b mule 1 at 1", 0);
        s.fault("after 1 {{" + GIFT + "}}", 9);
        s.due("close by", s.well("sale a b mule1for2at3paid4,times9{gift a b grain0at0}").leaf(0, 0, 7), 4);
        s.of("between them blanks (bytes 32 and 10).");
        for (int sign = 0; sign < 256; sign++) {
            String text = "gift" + (char) sign + "a b mule 1 at 1";
            boolean isLetter = sign >= 'a' && sign <= 'z';
            if (sign == 32 || sign == 10) {
                s.well(text);
                s.well((char) sign + text + (char) sign + (char) sign);
            } else {
                s.fault(text, isLetter ? 0 : 4);
                s.fault("gift a b mule 1 at 1 " + (char) sign, sign == ',' ? 22 : 21);
            }
        }
        s.due("as many as there's room for", s.well(GIFT + " ".repeat(580)).size(0, 0), 1);
    }

    private void limits() {
        s.of("\"{\": at most 6 open in one another.");
        for (String outer : new String[] {"after 1 {", "times 2 {", "if war {"}) {
            String end = "}".repeat(6);
            String six = outer.repeat(6) + GIFT + end;
            s.well(six);
            s.well(six + "," + six);
            s.fault(outer.repeat(6) + outer + GIFT + end + "}", 7 * outer.length() - 1);
            s.fault(six + "," + outer.repeat(7), six.length() + 7 * outer.length());
        }
        s.well("after 1 {".repeat(5) + "choice a {" + GIFT + "} or {" + GIFT + "}" + "}".repeat(5));
        s.fault("after 1 {".repeat(6) + "choice a {", 63);
        s.fault("after 1 {".repeat(5) + "if rain {" + GIFT + "} else {times 1 {", 45 + 9 + 20 + 8 + 8);
        s.of("LEAVES (pass, gift, sale, hire): at most 12;");
        for (String leaf : LEAVES) {
            String twelve = Check.repeat(leaf, 12, ",");
            s.due("twelve", s.well(twelve).size(0, 0), 12);
            for (String last : LEAVES) {
                s.fault(twelve + "," + last, twelve.length() + 1);
            }
        }
        String ten = Check.repeat(GIFT, 10, ",");
        s.due("wherever they are", s.well("times 0 {" + ten + "},if rain {" + GIFT + "} else {" + GIFT + "}").size(0, 0), 12);
        s.fault("times 0 {" + ten + "},if rain {" + GIFT + "," + GIFT + "} else {" + GIFT + "}", 9 + 209 + 2 + 9 + 41 + 8);
        s.of("\"choice\": at most 3.");
        String choice = "choice a {" + GIFT + "}";
        s.due("three", s.well(Check.repeat(choice, 3, ",")).size(0, 1), 3);
        s.fault(Check.repeat(choice, 4, ","), 96);
        s.due("three in one another", s.well("choice a {choice b {" + choice + "}}").size(0, 1), 3);
        s.fault("choice a {choice b {" + choice + "," + choice + "}}", 20 + 32);
        s.fault("choice a {" + choice + "} or {" + choice + "," + choice + "}", 10 + 31 + 6 + 32);
        LoanNames x = new LoanNames();
        for (int i = 0; i < 3; i++) {
            s.due("three of each DEAL", Check.deal(x, Check.repeat(choice, 3, ",")), i);
        }
    }

    private void faults() {
        s.of("FAULT: the place of the first byte of the first token (or byte that begins none) with which no such text goes on");
        s.fault("  \n gave a b mule 1 at 1", 4);
        s.fault(" ! ? \n", 1);
        s.fault("pass a a coin 99999 at 400", 7);
        s.fault("pass a b coin 99999 at 400", 14);
        s.fault(GIFT + "\n , \n pass a \u00e9", 33);
        s.fault("bar any;", 0);
        s.of("(a NUMBER beyond its bounds, the seventh open, the 13th LEAF's, the fourth choice's word, too);");
        s.fault(" pass a b coin 10000 at 1", 15);
        s.fault(" pass a b coin 1 at 400", 20);
        s.fault(" times 10 {", 7);
        // What leads up to such a token goes on: it's not at fault.
        s.fault("after 1 {".repeat(6) + "times 2", 54 + 7);
        s.fault("after 1 {".repeat(6) + "times 2 {", 54 + 8);
        String twelve = Check.repeat(GIFT, 12, ",");
        s.fault(twelve + ",", 252);
        s.fault(twelve + ",after 3 {if rain {", 252 + 18);
        s.fault(twelve + ",after 3 {if rain {pass", 252 + 18);
        s.fault(twelve + ",after 3 {if rain {passed", 252 + 18);
        String choices = Check.repeat("choice a {" + GIFT + "}", 3, ",");
        s.fault(choices + ",after 3 {choice", 96 + 9);
        s.fault(choices + ",after 3 {", 96 + 9);
        s.of("the text's length, if more must come.");
        s.fault("gift a b mule 1 at", 18);
        s.fault("gift a b mule 1 at  \n ", 22);
        s.fault("after 1 {" + GIFT, 29);
        s.fault("gi", 0);
        LoanNames x = new LoanNames();
        Check.feed(x, GIFT + "," + GIFT);
        s.due("a text of so many bytes as told", x.deal(18, 0), -1);
        s.due("its length", x.fault(), 18);
        Check.feed(x, "gift a b mule 1 at 12");
        s.due("a number as far as the text goes", x.deal(20, 0), 0);
        s.due("its DAY", x.leaf(0, 0, 6), 1);
        s.of("It's SIGNED on a DAY told.");
        s.due("on the first", Check.deal(x, GIFT, 0), 1);
        s.due("on the last", Check.deal(x, GIFT, 399), 2);
        s.due("the first", x.size(1, 3), 0);
        s.due("the last", x.size(2, 3), 399);
        s.due("one behind the last", Check.deal(x, GIFT, 400), -2);
        s.due("one ahead of the first", x.deal(20, -1), -2);
    }
}
