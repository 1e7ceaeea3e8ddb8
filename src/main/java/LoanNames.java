import java.util.Arrays;

/** Deals told in texts, and which bundles of them are a loan by another name. */
public final class LoanNames {
    public static final int NONE = -1;

    private static final int REFUSED = -2;
    private static final int FULL = -3;
    private static final int APART_AT_ONCE = -2;
    private static final long NO_SUM = -1_000_000_000_000L;

    private static final int HANDS = 8;
    private static final int FAMILIES = 8;
    private static final int THINGS = 6;
    private static final int COIN = 0;
    private static final int EVENTS = 5;
    private static final int EVERY_FAMILY = 255;

    private static final int MOST_BYTES = 600;
    private static final int MOST_DEALS = 24;
    private static final int MOST_LAWS = 6;
    private static final int MOST_WORDS = 12;
    private static final int MOST_TOGETHER = 6;
    private static final int MOST_OFFERED = 10;
    private static final int MOST_HONEST = 6;
    private static final int MOST_LEAVES = 12;
    private static final int MOST_CHOICES = 3;
    private static final int MOST_OPEN = 6;
    private static final int MOST_ROWS = 36;
    private static final int MOST_LOOKED = 8;
    private static final int LAW_STATEMENTS = 16;
    private static final int WORD_STATEMENTS = 12;

    private static final int LAST_DAY = 399;
    private static final int LAST_NET_DAY = 9999;
    private static final int MOST_NUMBER = 9999;
    private static final int MOST_TIMES = 9;
    private static final int MOST_DIGITS = 4;

    // In these rows each word has a blank behind it, so that one pass over the row finds a word.
    private static final String HAND_WORDS = "a b c d e f g h ";
    private static final String THING_WORDS = "coin mule cloth house work grain ";
    private static final String EVENT_WORDS = "dies rain war dear flood ";
    private static final String PART_WORDS = "pass gift sale hire after times if choice ";
    private static final String FORM_WORDS = "pass gift sale hire any ";
    private static final String TIE_WORDS = "back same more ";

    // FORMS and the other kinds of PART, as they stand in PART_WORDS.
    private static final int PASS = 0;
    private static final int GIFT = 1;
    private static final int SALE = 2;
    private static final int HIRE = 3;
    private static final int AFTER = 4;
    private static final int TIMES = 5;
    private static final int IF = 6;
    private static final int CHOICE = 7;
    private static final int ANY = 4;

    // What is told of a LEAF, as leaf() asks for it.
    private static final int FORM = 0;
    private static final int GIVER = 1;
    private static final int TAKER = 2;
    private static final int THING = 3;
    private static final int MUCH = 4;
    private static final int PAY = 5;
    private static final int AT = 6;
    private static final int LATE = 7;
    private static final int LEAF_WIDTH = 8;

    // What is told of a row that passes; its MASK and VALUE tell by which CODES it does.
    private static final int ROW_DAY = 0;
    private static final int ROW_GIVER = 1;
    private static final int ROW_TAKER = 2;
    private static final int ROW_THING = 3;
    private static final int ROW_MASK = 4;
    private static final int ROW_VALUE = 5;
    private static final int ROW_WIDTH = 6;
    private static final int ROW_MUCH = 4;

    private final int[] familyOf = new int[HANDS];
    private final Tape tape = new Tape();
    private final DealReader dealReader = new DealReader(tape);
    private final Deal[] deals = new Deal[MOST_DEALS];
    private int dealsTold;
    private final Rules[] laws = new Rules[MOST_LAWS];
    private int lawsTold;
    private final Rules[] words = new Rules[MOST_WORDS];
    private int wordsTold;
    private int faultPlace = NONE;
    private final Bundle bundle = new Bundle();
    private final Bundle[] honestOnes = new Bundle[MOST_HONEST];
    private int honestTold;
    private final Ledger ledger = new Ledger(familyOf);
    private final Tally tally = new Tally();
    private final Judge judge = new Judge(familyOf);
    private final Search search = new Search(ledger, judge);
    private final Kinship kinship = new Kinship();

    public LoanNames() {
        for (int hand = 0; hand < HANDS; hand++) {
            familyOf[hand] = hand;
        }
    }

    public boolean family(int hand, int family) {
        if (!isWithin(hand, HANDS) || !isWithin(family, FAMILIES)) {
            return false;
        }
        familyOf[hand] = family;
        tally.known = false;
        search.forgetAll();
        return true;
    }

    public int feed(int a, int b, int c, int d, int e) {
        if (tape.length + 20 > MOST_BYTES) {
            return NONE;
        }
        tape.putFour(a);
        tape.putFour(b);
        tape.putFour(c);
        tape.putFour(d);
        tape.putFour(e);
        return tape.length;
    }

    public int deal(int n, int signed) {
        if (signed < 0 || signed > LAST_DAY) {
            return REFUSED;
        }
        int refusal = refusalOf(n, dealsTold, MOST_DEALS);
        if (refusal != 0) {
            return refusal;
        }
        if (deals[dealsTold] == null) {
            deals[dealsTold] = new Deal(dealsTold);
        }
        tape.open(n);
        boolean well = dealReader.readDeal(deals[dealsTold]);
        if (well) {
            deals[dealsTold].signed = signed;
            dealsTold++;
        }
        return closeText(well, dealsTold - 1);
    }

    public int law(int n) {
        int number = tellRules(n, laws, lawsTold, 0, LAW_STATEMENTS);
        if (number >= 0) {
            lawsTold++;
            search.forget();
        }
        return number;
    }

    public int word(int n) {
        int number = tellRules(n, words, wordsTold, 1, WORD_STATEMENTS);
        if (number >= 0) {
            wordsTold++;
        }
        return number;
    }

    public int fault() {
        return faultPlace;
    }

    public int size(int deal, int what) {
        if (!isWithin(deal, dealsTold)) {
            return NONE;
        }
        Deal one = deals[deal];
        switch (what) {
            case 0: return one.leaves;
            case 1: return one.choices;
            case 2: return one.events;
            case 3: return one.signed;
            case 4: return one.familiesIn(familyOf);
            case 5: return one.things;
            default: return NONE;
        }
    }

    public int leaf(int deal, int k, int what) {
        if (!isWithin(deal, dealsTold) || !isWithin(what, LEAF_WIDTH)) {
            return NONE;
        }
        Deal one = deals[deal];
        return isWithin(k, one.leaves) ? one.leaf[k * LEAF_WIDTH + what] : NONE;
    }

    public int plain(int deal, int what) {
        if (!isWithin(deal, dealsTold) || !isWithin(what, 2)) {
            return NONE;
        }
        return what == 0 ? deals[deal].plainSteps : deals[deal].plainLeaves;
    }

    public int same(int one, int other) {
        if (!isWithin(one, dealsTold) || !isWithin(other, dealsTold)) {
            return REFUSED;
        }
        return kinship.firstApart(deals[one], deals[other]);
    }

    public int add(int deal) {
        if (!isWithin(deal, dealsTold) || bundle.many >= MOST_TOGETHER || bundle.holds(deals[deal])) {
            return NONE;
        }
        bundle.push(deals[deal]);
        tally.known = false;
        return bundle.many;
    }

    public int clear() {
        int many = bundle.many;
        bundle.many = 0;
        tally.known = false;
        return many;
    }

    public long passed(int code, int k, int what) {
        if (!bundle.hasCode(code)) {
            return NONE;
        }
        if (k == NONE) {
            return what == 0 ? bundle.rowsBy(code) : NONE;
        }
        if (k < 0 || !isWithin(what, ROW_MUCH + 1)) {
            return NONE;
        }
        return bundle.toldOfRow(code, k, what);
    }

    public long net(int code, int family, int thing, int day) {
        if (!bundle.hasCode(code) || !isWithin(family, FAMILIES) || !isWithin(thing, THINGS)) {
            return NO_SUM;
        }
        if (day != NONE && (day < 0 || day > LAST_NET_DAY)) {
            return NO_SUM;
        }
        return ledger.sumOf(bundle, code, family, thing, day);
    }

    public int codes() {
        return bundle.isLooked() ? bundle.codesLooked() : NONE;
    }

    public int lends(int l, int b) {
        if (!isPair(l, b) || !bundle.isLooked()) {
            return NONE;
        }
        tally.learn(bundle, ledger);
        return tally.times[l * FAMILIES + b];
    }

    public long price(int l, int b, int what) {
        if (!isPair(l, b) || !isWithin(what, Tally.PRICE_WIDTH) || !bundle.isLooked()) {
            return NONE;
        }
        tally.learn(bundle, ledger);
        int pair = l * FAMILIES + b;
        return tally.times[pair] == 0 ? NONE : tally.prices[pair * Tally.PRICE_WIDTH + what];
    }

    public int loan() {
        if (!bundle.isLooked()) {
            return NONE;
        }
        tally.learn(bundle, ledger);
        return tally.loanFound;
    }

    public long step() {
        if (!bundle.isLooked()) {
            return NONE;
        }
        tally.learn(bundle, ledger);
        return tally.loanFound == NONE ? NONE : tally.least[tally.loanFound / 10];
    }

    public long bears(int family, int event) {
        if (!isWithin(family, FAMILIES) || !isWithin(event, EVENTS)) {
            return NO_SUM;
        }
        return ledger.sumOf(bundle, 1 << event, family, COIN, NONE) - ledger.sumOf(bundle, 0, family, COIN, NONE);
    }

    public long cost(int l, int b, int what) {
        if (!isPair(l, b) || !isWithin(what, 2)) {
            return NONE;
        }
        long all = 0;
        long most = 0;
        int who = NONE;
        for (int family = 0; family < FAMILIES; family++) {
            long has = family == l || family == b ? 0 : ledger.sumOf(bundle, 0, family, COIN, NONE);
            if (has > 0) {
                all += has;
            }
            if (has > most) {
                most = has;
                who = family;
            }
        }
        return what == 0 ? all : who;
    }

    public int breach(int what) {
        Rules law = lawInForce();
        if (law == null || !isWithin(what, 3)) {
            return NONE;
        }
        judge.hear(bundle);
        int statement = judge.firstThatBars(law);
        if (statement == NONE || what == 0) {
            return statement;
        }
        return what == 1 ? judge.firstLeaf : judge.secondLeaf;
    }

    public int bars(int word) {
        if (!isWithin(word, wordsTold)) {
            return NONE;
        }
        judge.hear(bundle);
        return judge.firstThatBars(words[word]) == NONE ? 0 : 1;
    }

    public int offer(int deal) {
        if (!isWithin(deal, dealsTold)) {
            return NONE;
        }
        return search.putOffered(deals[deal]) ? search.offeredMany : NONE;
    }

    public int sly(int k, int what) {
        if (k < 1 || k > MOST_TOGETHER || !isWithin(what, 2)) {
            return NONE;
        }
        search.look(k, lawInForce());
        return what == 0 ? search.howMany(k) : search.fewest(k);
    }

    public int honest() {
        if (honestTold >= MOST_HONEST || bundle.many == 0) {
            return NONE;
        }
        Bundle kept = new Bundle();
        kept.copyFrom(bundle);
        honestOnes[honestTold] = kept;
        honestTold++;
        return honestTold - 1;
    }

    public int innocent(int honest, int what) {
        if (!isWithin(honest, honestTold)) {
            return NONE;
        }
        Bundle one = honestOnes[honest];
        if (what == 0) {
            return isLet(one) ? 1 : 0;
        }
        if (what == 1) {
            return ledger.findLoan(one);
        }
        return what >= 10 && what - 10 < one.many ? one.deals[what - 10].number : NONE;
    }

    public int parts(int honest) {
        if (!isWithin(honest, honestTold) || !bundle.isLooked() || !honestOnes[honest].isLooked()) {
            return NONE;
        }
        Bundle one = honestOnes[honest];
        if (!ledger.isEven(one, bundle, 0)) {
            return APART_AT_ONCE;
        }
        for (int event = 0; event < EVENTS; event++) {
            if (!ledger.isEven(one, bundle, 1 << event)) {
                return event;
            }
        }
        return NONE;
    }

    public int stop(int k) {
        if (k < 1 || k > MOST_TOGETHER) {
            return NONE;
        }
        search.look(k, lawInForce());
        int usable = 0;
        for (int word = 0; word < wordsTold; word++) {
            if (sparesHonest(words[word])) {
                usable |= 1 << word;
            }
        }
        return search.fewestWords(k, words, usable);
    }

    public int heap(int n, int deal) {
        if (n < 0 || deal != NONE && !isWithin(deal, dealsTold)) {
            return NONE;
        }
        kinship.gather(deals, dealsTold, n, familyOf);
        return deal == NONE ? kinship.heaps(dealsTold) : kinship.leastOf[deal];
    }

    public int group(int n, int deal) {
        if (n < 0 || !isWithin(deal, dealsTold)) {
            return NONE;
        }
        kinship.gather(deals, dealsTold, n, familyOf);
        return kinship.fillBundle(deals, dealsTold, deal) ? ledger.findLoan(kinship.together) : NONE;
    }

    public int count(int what) {
        switch (what) {
            case 0: return dealsTold;
            case 1: return lawsTold;
            case 2: return lawsTold == 0 ? 0 : laws[lawsTold - 1].many;
            case 3: return wordsTold;
            case 4: return bundle.many;
            case 5: return search.offeredMany;
            case 6: return honestTold;
            case 7: return bundle.allLeaves();
            case 8: return bundle.allChoices();
            case 9: return tape.length;
            default: return NONE;
        }
    }

    private static boolean isWithin(int value, int bound) {
        return value >= 0 && value < bound;
    }

    private static boolean isPair(int l, int b) {
        return isWithin(l, FAMILIES) && isWithin(b, FAMILIES) && l != b;
    }

    private int refusalOf(int n, int there, int most) {
        if (n < 0 || n > tape.length) {
            return REFUSED;
        }
        return there >= most ? FULL : 0;
    }

    private int tellRules(int n, Rules[] texts, int told, int fewest, int most) {
        int refusal = refusalOf(n, told, texts.length);
        if (refusal != 0) {
            return refusal;
        }
        if (texts[told] == null) {
            texts[told] = new Rules();
        }
        tape.open(n);
        return closeText(texts[told].readRules(tape, fewest, most), told);
    }

    private int closeText(boolean well, int number) {
        tape.length = 0;
        faultPlace = well ? NONE : tape.wrong;
        return well ? number : NONE;
    }

    private Rules lawInForce() {
        return lawsTold == 0 ? null : laws[lawsTold - 1];
    }

    private boolean isLet(Bundle one) {
        Rules law = lawInForce();
        if (law == null) {
            return true;
        }
        judge.hear(one);
        return judge.firstThatBars(law) == NONE;
    }

    private boolean sparesHonest(Rules word) {
        for (int honest = 0; honest < honestTold; honest++) {
            judge.hear(honestOnes[honest]);
            if (judge.firstThatBars(word) != NONE) {
                return false;
            }
        }
        return true;
    }

    /** The bytes that were fed, and the token among them that is being read. */
    private static final class Tape {
        static final int END = 0;
        static final int LETTERS = 1;
        static final int DIGITS = 2;
        static final int OTHER = 3;

        final int[] bytes = new int[MOST_BYTES];
        int length;
        int wrong = NONE;
        private int end;
        private int kind;
        private int from;
        private int past;

        void putFour(int four) {
            for (int shift = 24; shift >= 0; shift -= 8) {
                if (length < MOST_BYTES) {
                    bytes[length] = (four >>> shift) & 255;
                    length++;
                }
            }
        }

        /** Reading begins at the first token of the first n bytes. */
        void open(int n) {
            end = Math.min(n, length);
            past = 0;
            wrong = NONE;
            advance();
        }

        void advance() {
            from = past;
            while (from < end && (bytes[from] == ' ' || bytes[from] == '\n')) {
                from++;
            }
            past = from;
            kind = LETTERS;
            while (past < end && bytes[past] >= 'a' && bytes[past] <= 'z') {
                past++;
            }
            if (past == from) {
                kind = DIGITS;
                while (past < end && bytes[past] >= '0' && bytes[past] <= '9') {
                    past++;
                }
            }
            if (past == from) {
                kind = from < end ? OTHER : END;
                past = Math.min(from + 1, end);
            }
        }

        /** The FAULT is at this token. */
        boolean refuse() {
            wrong = from;
            return false;
        }

        boolean isAtEnd() {
            return kind == END;
        }

        boolean isSign(char sign) {
            return kind == OTHER && bytes[from] == sign;
        }

        boolean takeSign(char sign) {
            if (!isSign(sign)) {
                return refuse();
            }
            advance();
            return true;
        }

        /** Which word of a row of words this token is. */
        int placeIn(String row) {
            if (kind != LETTERS) {
                return NONE;
            }
            int place = 0;
            int hit = 0;
            for (int i = 0; i < row.length(); i++) {
                char letter = row.charAt(i);
                if (letter == ' ') {
                    if (hit == past - from) {
                        return place;
                    }
                    place++;
                    hit = 0;
                } else if (hit != NONE) {
                    hit = from + hit < past && bytes[from + hit] == letter ? hit + 1 : NONE;
                }
            }
            return NONE;
        }

        boolean isWord(String word) {
            return placeIn(word) == 0;
        }

        boolean takeWord(String word) {
            if (!isWord(word)) {
                return refuse();
            }
            advance();
            return true;
        }

        int takeOneOf(String row) {
            int place = placeIn(row);
            if (place == NONE) {
                refuse();
            } else {
                advance();
            }
            return place;
        }

        int takeNumber(int low, int high) {
            int number = NONE;
            if (kind == DIGITS && past - from <= MOST_DIGITS) {
                number = 0;
                for (int i = from; i < past; i++) {
                    number = number * 10 + bytes[i] - '0';
                }
            }
            if (number < low || number > high) {
                refuse();
                return NONE;
            }
            advance();
            return number;
        }
    }

    /** A DEAL, with what passes by it already laid out in rows. */
    private static final class Deal {
        final int number;
        int signed;
        int leaves;
        int choices;
        int events;
        int things;
        int rows;
        int plainSteps;
        int plainLeaves;
        final int[] leaf = new int[MOST_LEAVES * LEAF_WIDTH];
        final int[] row = new int[MOST_ROWS * ROW_WIDTH];
        final long[] much = new long[MOST_ROWS];
        final int[] byDay = new int[MOST_ROWS];

        Deal(int number) {
            this.number = number;
        }

        void empty() {
            leaves = 0;
            choices = 0;
            events = 0;
            things = 0;
            rows = 0;
        }

        void putLeaf(int[] said, int later) {
            if (leaves >= MOST_LEAVES) {
                return;
            }
            int base = leaves * LEAF_WIDTH;
            System.arraycopy(said, 0, leaf, base, LEAF_WIDTH);
            leaf[base + AT] += later;
            leaf[base + LATE] += later;
            things |= 1 << said[THING];
            leaves++;
        }

        /** The rows of the LEAF put last, each so many times as much, by CODES that have this value under the mask. */
        void putRows(int times, int mask, int value) {
            int base = (leaves - 1) * LEAF_WIDTH;
            if (base < 0 || times == 0) {
                return;
            }
            int form = leaf[base + FORM];
            int thing = leaf[base + THING];
            long goods = (long) leaf[base + MUCH] * times;
            putRow(base, false, thing, goods, mask, value);
            if (form == HIRE) {
                putRow(base, true, thing, goods, mask, value);
            }
            if (form == SALE || form == HIRE) {
                putRow(base, true, COIN, (long) leaf[base + PAY] * times, mask, value);
            }
        }

        private void putRow(int base, boolean back, int thing, long goods, int mask, int value) {
            if (rows >= MOST_ROWS) {
                return;
            }
            int at = rows * ROW_WIDTH;
            row[at + ROW_DAY] = leaf[base + (back ? LATE : AT)];
            row[at + ROW_GIVER] = leaf[base + (back ? TAKER : GIVER)];
            row[at + ROW_TAKER] = leaf[base + (back ? GIVER : TAKER)];
            row[at + ROW_THING] = thing;
            row[at + ROW_MASK] = mask;
            row[at + ROW_VALUE] = value;
            much[rows] = goods;
            rows++;
        }

        /** Rows are looked at by DAYS again and again: their order is made once. */
        void sortByDay() {
            for (int i = 0; i < rows; i++) {
                int place = i;
                while (place > 0 && dayOf(byDay[place - 1]) > dayOf(i)) {
                    byDay[place] = byDay[place - 1];
                    place--;
                }
                byDay[place] = i;
            }
        }

        int dayOf(int k) {
            return row[k * ROW_WIDTH + ROW_DAY];
        }

        boolean isPassing(int k, int code) {
            return (code & row[k * ROW_WIDTH + ROW_MASK]) == row[k * ROW_WIDTH + ROW_VALUE];
        }

        int familiesIn(int[] familyOf) {
            int bits = 0;
            for (int k = 0; k < leaves; k++) {
                bits |= 1 << familyOf[leaf[k * LEAF_WIDTH + GIVER]];
                bits |= 1 << familyOf[leaf[k * LEAF_WIDTH + TAKER]];
            }
            return bits;
        }
    }

    /** Reads a DEAL from the tape. */
    private static final class DealReader {
        private final Tape tape;
        private final Shape shape = new Shape();
        private final int[] said = new int[LEAF_WIDTH];
        private Deal into;
        // What stands around the PART that is read: all "after", all "times" (0 where no row can pass),
        // and the bits of a CODE that must be as told.
        private int later;
        private int times;
        private int mask;
        private int value;

        DealReader(Tape tape) {
            this.tape = tape;
        }

        boolean readDeal(Deal deal) {
            into = deal;
            into.empty();
            shape.empty();
            later = 0;
            times = 1;
            mask = 0;
            value = 0;
            if (!readAll(0)) {
                return false;
            }
            if (!tape.isAtEnd()) {
                return tape.refuse();
            }
            into.sortByDay();
            into.plainSteps = shape.steps;
            into.plainLeaves = shape.leavesLeft();
            return true;
        }

        private boolean readAll(int open) {
            for (int i = 0; i < MOST_BYTES; i++) {
                if (!readPart(open)) {
                    return false;
                }
                if (!tape.isSign(',')) {
                    return true;
                }
                tape.advance();
            }
            return tape.refuse();
        }

        private boolean readPart(int open) {
            int kind = tape.placeIn(PART_WORDS);
            switch (kind) {
                case PASS:
                case GIFT:
                case SALE:
                case HIRE:
                    return readLeaf(kind);
                case AFTER:
                    return readAfter(open);
                case TIMES:
                    return readTimes(open);
                case IF:
                    return readIf(open);
                case CHOICE:
                    return readChoice(open);
                default:
                    return tape.refuse();
            }
        }

        private boolean readLeaf(int form) {
            if (into.leaves >= MOST_LEAVES) {
                return tape.refuse();
            }
            tape.advance();
            said[FORM] = form;
            if (!readTwo() || !readSo() || !readPay(form) || !readDays(form)) {
                return false;
            }
            shape.putLeaf(said);
            into.putLeaf(said, later);
            into.putRows(times, mask, value);
            return true;
        }

        private boolean readTwo() {
            said[GIVER] = tape.takeOneOf(HAND_WORDS);
            if (said[GIVER] == NONE) {
                return false;
            }
            if (tape.placeIn(HAND_WORDS) == said[GIVER]) {
                return tape.refuse();
            }
            said[TAKER] = tape.takeOneOf(HAND_WORDS);
            return said[TAKER] != NONE;
        }

        private boolean readSo() {
            said[THING] = tape.takeOneOf(THING_WORDS);
            if (said[THING] == NONE) {
                return false;
            }
            said[MUCH] = tape.takeNumber(0, MOST_NUMBER);
            return said[MUCH] != NONE;
        }

        private boolean readPay(int form) {
            said[PAY] = 0;
            if (form != SALE && form != HIRE) {
                return true;
            }
            if (!tape.takeWord("for ")) {
                return false;
            }
            said[PAY] = tape.takeNumber(0, MOST_NUMBER);
            return said[PAY] != NONE;
        }

        private boolean readDays(int form) {
            if (!tape.takeWord("at ")) {
                return false;
            }
            said[AT] = tape.takeNumber(0, LAST_DAY);
            said[LATE] = said[AT];
            if (said[AT] == NONE) {
                return false;
            }
            boolean isPaidLater = form == SALE && tape.isWord("paid ");
            if (form != HIRE && !isPaidLater) {
                return true;
            }
            if (!tape.takeWord(isPaidLater ? "paid " : "back ")) {
                return false;
            }
            said[LATE] = tape.takeNumber(said[AT], LAST_DAY);
            return said[LATE] != NONE;
        }

        private boolean readAfter(int open) {
            tape.advance();
            int days = tape.takeNumber(0, LAST_DAY);
            if (days == NONE) {
                return false;
            }
            int start = shape.begin(Shape.AFTER_MARK, days);
            later += days;
            boolean well = readBlock(open);
            later -= days;
            shape.endOne(start);
            return well;
        }

        private boolean readTimes(int open) {
            tape.advance();
            int many = tape.takeNumber(0, MOST_TIMES);
            if (many == NONE) {
                return false;
            }
            int start = shape.begin(Shape.TIMES_MARK, many);
            int kept = times;
            times *= many;
            boolean well = readBlock(open);
            times = kept;
            shape.endOne(start);
            return well;
        }

        private boolean readIf(int open) {
            tape.advance();
            int event = tape.takeOneOf(EVENT_WORDS);
            if (event == NONE) {
                return false;
            }
            into.events |= 1 << event;
            return readBranches(open, shape.begin(Shape.IF_MARK, event), event, 1, "else ");
        }

        private boolean readChoice(int open) {
            if (into.choices >= MOST_CHOICES) {
                return tape.refuse();
            }
            int bit = EVENTS + into.choices;
            into.choices++;
            tape.advance();
            int hand = tape.takeOneOf(HAND_WORDS);
            if (hand == NONE) {
                return false;
            }
            return readBranches(open, shape.begin(Shape.CHOICE_MARK, hand), bit, 0, "or ");
        }

        /** One or two blocks, the first for the bit as wanted, the second for the other. */
        private boolean readBranches(int open, int start, int bit, int wanted, String between) {
            if (!readBranch(open, bit, wanted)) {
                return false;
            }
            shape.turn(start);
            boolean well = true;
            if (tape.isWord(between)) {
                tape.advance();
                well = readBranch(open, bit, 1 - wanted);
            }
            shape.endTwo(start);
            return well;
        }

        /** A block whose rows pass only by CODES that have the bit as wanted. */
        private boolean readBranch(int open, int bit, int wanted) {
            int keptMask = mask;
            int keptValue = value;
            int keptTimes = times;
            if ((mask >> bit & 1) == 1 && (value >> bit & 1) != wanted) {
                times = 0;
            }
            mask |= 1 << bit;
            value = value & ~(1 << bit) | wanted << bit;
            boolean well = readBlock(open);
            mask = keptMask;
            value = keptValue;
            times = keptTimes;
            return well;
        }

        private boolean readBlock(int open) {
            if (open >= MOST_OPEN) {
                return tape.refuse();
            }
            return tape.takeSign('{') && readAll(open + 1) && tape.takeSign('}');
        }
    }

    /**
     * A DEAL on the way to being PLAIN: a row of cells to which PARTS are put as they are read and in which each one
     * is made PLAIN as it ends, so that from inside out is the order by itself. Marks alone are below 0. "after",
     * "times": mark, number, length, inside; "if", "choice": mark, name, length, first, length, second.
     */
    private static final class Shape {
        static final int LEAF_MARK = -2;
        static final int AFTER_MARK = -3;
        static final int TIMES_MARK = -4;
        static final int IF_MARK = -5;
        static final int CHOICE_MARK = -6;
        private static final int HEAD = 3;
        // 12 LEAVES of 9 cells, each in at most 6 blocks of at most 4 cells, are 396.
        private static final int CELLS = 512;

        int steps;
        private final int[] cells = new int[CELLS];
        private int filled;

        void empty() {
            steps = 0;
            filled = 0;
        }

        private boolean hasRoom(int many) {
            return filled + many <= CELLS;
        }

        void putLeaf(int[] said) {
            if (hasRoom(1 + LEAF_WIDTH)) {
                cells[filled] = LEAF_MARK;
                System.arraycopy(said, 0, cells, filled + 1, LEAF_WIDTH);
                filled += 1 + LEAF_WIDTH;
            }
        }

        int begin(int mark, int told) {
            if (!hasRoom(HEAD)) {
                return NONE;
            }
            int start = filled;
            cells[start] = mark;
            cells[start + 1] = told;
            cells[start + 2] = 0;
            filled += HEAD;
            return start;
        }

        private boolean isBegun(int start) {
            return start >= 0 && start + HEAD <= filled;
        }

        /** "after" and "times". */
        void endOne(int start) {
            if (!isBegun(start)) {
                return;
            }
            int told = cells[start + 1];
            int body = start + HEAD;
            int length = filled - body;
            boolean isAfter = cells[start] == AFTER_MARK;
            cells[start + 2] = length;
            if (length == 0 || !isAfter && told == 0) {
                filled = start;
                steps++;
            } else if (told == (isAfter ? 0 : 1)) {
                lift(start, body, length);
                steps++;
            } else if (isAfter && isJustAfter(body, length)) {
                lift(start, body, length);
                cells[start + 1] += told;
                steps++;
            }
        }

        private boolean isJustAfter(int body, int length) {
            return length >= HEAD && cells[body] == AFTER_MARK && cells[body + 2] + HEAD == length;
        }

        /** The first part of an "if" or "choice" is all there. */
        void turn(int start) {
            if (isBegun(start) && hasRoom(1)) {
                cells[start + 2] = filled - start - HEAD;
                cells[filled] = 0;
                filled++;
            }
        }

        /** "if" and "choice". */
        void endTwo(int start) {
            if (!isBegun(start)) {
                return;
            }
            int first = start + HEAD;
            int firstLength = cells[start + 2];
            int second = first + firstLength + 1;
            int secondLength = filled - second;
            if (secondLength < 0) {
                return;
            }
            cells[second - 1] = secondLength;
            if (firstLength == 0 && secondLength == 0) {
                filled = start;
                steps++;
            } else if (firstLength == secondLength && isAlike(first, second, firstLength)) {
                lift(start, first, firstLength);
                steps++;
            }
        }

        private boolean isAlike(int first, int second, int length) {
            for (int i = 0; i < length; i++) {
                if (cells[first + i] != cells[second + i] || cells[first + i] == CHOICE_MARK) {
                    return false;
                }
            }
            return true;
        }

        private void lift(int start, int body, int length) {
            System.arraycopy(cells, body, cells, start, length);
            filled = start + length;
        }

        int leavesLeft() {
            int left = 0;
            for (int i = 0; i < filled; i++) {
                if (cells[i] == LEAF_MARK) {
                    left++;
                }
            }
            return left;
        }
    }

    /** A row of DEALS, each once. */
    private static final class Bundle {
        final Deal[] deals = new Deal[MOST_TOGETHER];
        int many;

        void push(Deal deal) {
            if (many < MOST_TOGETHER) {
                deals[many] = deal;
                many++;
            }
        }

        void copyFrom(Bundle other) {
            many = 0;
            for (int i = 0; i < other.many; i++) {
                push(other.deals[i]);
            }
        }

        boolean holds(Deal deal) {
            for (int i = 0; i < many; i++) {
                if (deals[i] == deal) {
                    return true;
                }
            }
            return false;
        }

        int choicesBefore(int place) {
            int choices = 0;
            for (int i = 0; i < place && i < many; i++) {
                choices += deals[i].choices;
            }
            return choices;
        }

        int allLeaves() {
            int leaves = 0;
            for (int i = 0; i < many; i++) {
                leaves += deals[i].leaves;
            }
            return leaves;
        }

        int allChoices() {
            return choicesBefore(many);
        }

        /** The bits of the EVENTS named and of the CHOICES. */
        int namedBits() {
            int events = 0;
            for (int i = 0; i < many; i++) {
                events |= deals[i].events;
            }
            return events | ((1 << allChoices()) - 1) << EVENTS;
        }

        boolean isLooked() {
            return Integer.bitCount(namedBits()) <= MOST_LOOKED;
        }

        int codesLooked() {
            return 1 << Integer.bitCount(namedBits());
        }

        boolean hasCode(int code) {
            return code >= 0 && code < 1 << EVENTS + allChoices();
        }

        /** A CODE as the DEAL sees it that has so many CHOICES before its own. */
        static int codeFor(int code, int before) {
            return code & (1 << EVENTS) - 1 | (code >> before & ~((1 << EVENTS) - 1));
        }

        int rowsBy(int code) {
            int rows = 0;
            int before = 0;
            for (int i = 0; i < many; i++) {
                int own = codeFor(code, before);
                for (int k = 0; k < deals[i].rows; k++) {
                    if (deals[i].isPassing(k, own)) {
                        rows++;
                    }
                }
                before += deals[i].choices;
            }
            return rows;
        }

        long toldOfRow(int code, int wanted, int what) {
            int rows = 0;
            int before = 0;
            for (int i = 0; i < many; i++) {
                int own = codeFor(code, before);
                for (int k = 0; k < deals[i].rows; k++) {
                    if (deals[i].isPassing(k, own)) {
                        if (rows == wanted) {
                            return what == ROW_MUCH ? deals[i].much[k] : deals[i].row[k * ROW_WIDTH + what];
                        }
                        rows++;
                    }
                }
                before += deals[i].choices;
            }
            return NONE;
        }
    }

    /** What FAMILIES get and give by a BUNDLE. */
    private static final class Ledger {
        private static final int MOST = MOST_TOGETHER * MOST_ROWS;
        // Entries are like the rows of DEALS, with FAMILIES in place of HANDS and the bits of the whole BUNDLE.
        private final int[] familyOf;
        private final int[] entry = new int[MOST * ROW_WIDTH];
        private final long[] much = new long[MOST];
        private int entries;
        private int bitsThatTell;
        // The FAMILIES that the entries tell of: the others stay as they are.
        private final int[] present = new int[FAMILIES];
        private int presentMany;
        private final int[] head = new int[MOST_TOGETHER];
        private final long[] totals = new long[FAMILIES * THINGS];
        private final int[] lendsTo = new int[FAMILIES];
        // What becomes of each FAMILY's coin by one CODE, DAY by DAY.
        final long[] held = new long[FAMILIES];
        final long[] outDays = new long[FAMILIES];
        private final long[] today = new long[FAMILIES];
        private final int[] lastDay = new int[FAMILIES];
        private final int[] paidAtFirst = new int[FAMILIES];
        private int begun;
        private int risen;
        private int spoilt;
        private int uneven;
        private int below;

        Ledger(int[] familyOf) {
            this.familyOf = familyOf;
        }

        /** NET by a CODE on a DAY, or over all (NONE). */
        long sumOf(Bundle bundle, int code, int family, int thing, int day) {
            long sum = 0;
            int before = 0;
            for (int i = 0; i < bundle.many; i++) {
                Deal deal = bundle.deals[i];
                int own = Bundle.codeFor(code, before);
                for (int k = 0; k < deal.rows; k++) {
                    boolean counts = deal.row[k * ROW_WIDTH + ROW_THING] == thing && deal.isPassing(k, own);
                    if (counts && (day == NONE || deal.dayOf(k) == day)) {
                        sum += shareOf(deal, k, family);
                    }
                }
                before += deal.choices;
            }
            return sum;
        }

        private long shareOf(Deal deal, int k, int family) {
            long share = 0;
            if (familyOf[deal.row[k * ROW_WIDTH + ROW_TAKER]] == family) {
                share += deal.much[k];
            }
            if (familyOf[deal.row[k * ROW_WIDTH + ROW_GIVER]] == family) {
                share -= deal.much[k];
            }
            return share;
        }

        /** Whether two BUNDLES leave all FAMILIES with the same NETS over all by a CODE. */
        boolean isEven(Bundle one, Bundle other, int code) {
            Arrays.fill(totals, 0L);
            for (int i = 0; i < one.many; i++) {
                sumInto(one.deals[i], code, 1, totals, 0);
            }
            for (int i = 0; i < other.many; i++) {
                sumInto(other.deals[i], code, -1, totals, 0);
            }
            for (int i = 0; i < totals.length; i++) {
                if (totals[i] != 0) {
                    return false;
                }
            }
            return true;
        }

        /** NETS over all by a CODE of EVENTS alone: of each FAMILY all THINGS in a row. */
        void sumInto(Deal deal, int code, int sign, long[] into, int base) {
            for (int k = 0; k < deal.rows; k++) {
                if (deal.isPassing(k, code)) {
                    int at = k * ROW_WIDTH;
                    int thing = deal.row[at + ROW_THING];
                    into[base + familyOf[deal.row[at + ROW_TAKER]] * THINGS + thing] += sign * deal.much[k];
                    into[base + familyOf[deal.row[at + ROW_GIVER]] * THINGS + thing] -= sign * deal.much[k];
                }
            }
        }

        /** The LOAN that a BUNDLE is, 10 times L and B. */
        int findLoan(Bundle bundle) {
            if (!bundle.isLooked()) {
                return NONE;
            }
            take(bundle);
            Arrays.fill(lendsTo, 0);
            for (int i = 0; i < presentMany; i++) {
                lendsTo[present[i]] = EVERY_FAMILY;
            }
            // CODES that differ only in bits on which no entry hangs weigh the same.
            int many = 1 << Integer.bitCount(bitsThatTell);
            int code = 0;
            for (int i = 0; i < many; i++) {
                weigh(code);
                int left = 0;
                for (int j = 0; j < presentMany; j++) {
                    int l = present[j];
                    lendsTo[l] &= borrowersOf(l);
                    left |= lendsTo[l];
                }
                if (left == 0) {
                    return NONE;
                }
                code = (code - bitsThatTell) & bitsThatTell;
            }
            for (int l = 0; l < FAMILIES; l++) {
                if (lendsTo[l] != 0) {
                    return 10 * l + Integer.numberOfTrailingZeros(lendsTo[l]);
                }
            }
            return NONE;
        }

        /** Lays out the rows of a BUNDLE by DAYS, those left out that change no NET. */
        void take(Bundle bundle) {
            entries = 0;
            bitsThatTell = 0;
            int told = 0;
            Arrays.fill(head, 0);
            for (int i = 0; i < MOST; i++) {
                int earliest = earliestHead(bundle);
                if (earliest == NONE) {
                    break;
                }
                Deal deal = bundle.deals[earliest];
                told |= putEntry(deal, deal.byDay[head[earliest]], bundle.choicesBefore(earliest));
                head[earliest]++;
            }
            presentMany = 0;
            for (int family = 0; family < FAMILIES; family++) {
                if ((told >> family & 1) == 1) {
                    present[presentMany] = family;
                    presentMany++;
                }
            }
        }

        private int earliestHead(Bundle bundle) {
            int earliest = NONE;
            int least = 0;
            for (int i = 0; i < bundle.many; i++) {
                Deal deal = bundle.deals[i];
                if (head[i] < deal.rows) {
                    int day = deal.dayOf(deal.byDay[head[i]]);
                    if (earliest == NONE || day < least) {
                        earliest = i;
                        least = day;
                    }
                }
            }
            return earliest;
        }

        /** Bits of the FAMILIES that it tells of. */
        private int putEntry(Deal deal, int k, int before) {
            int from = k * ROW_WIDTH;
            int giver = familyOf[deal.row[from + ROW_GIVER]];
            int taker = familyOf[deal.row[from + ROW_TAKER]];
            if (giver == taker || deal.much[k] == 0 || entries >= MOST) {
                return 0;
            }
            int at = entries * ROW_WIDTH;
            entry[at + ROW_DAY] = deal.row[from + ROW_DAY];
            entry[at + ROW_GIVER] = giver;
            entry[at + ROW_TAKER] = taker;
            entry[at + ROW_THING] = deal.row[from + ROW_THING];
            entry[at + ROW_MASK] = bitsBehind(deal.row[from + ROW_MASK], before);
            entry[at + ROW_VALUE] = bitsBehind(deal.row[from + ROW_VALUE], before);
            bitsThatTell |= entry[at + ROW_MASK];
            much[entries] = deal.much[k];
            entries++;
            return 1 << giver | 1 << taker;
        }

        private static int bitsBehind(int bits, int before) {
            int events = (1 << EVENTS) - 1;
            return bits & events | (bits & ~events) << before;
        }

        /** Follows what was taken by one CODE; then borrowersOf(), held, outDays tell of it. */
        void weigh(int code) {
            Arrays.fill(totals, 0L);
            Arrays.fill(held, 0L);
            Arrays.fill(outDays, 0L);
            begun = 0;
            risen = 0;
            spoilt = 0;
            int day = NONE;
            for (int i = 0; i < entries; i++) {
                int at = i * ROW_WIDTH;
                if ((code & entry[at + ROW_MASK]) != entry[at + ROW_VALUE]) {
                    continue;
                }
                int thing = entry[at + ROW_THING];
                if (thing == COIN) {
                    if (entry[at + ROW_DAY] != day) {
                        endDay(day);
                        day = entry[at + ROW_DAY];
                    }
                    today[entry[at + ROW_GIVER]] -= much[i];
                    today[entry[at + ROW_TAKER]] += much[i];
                } else {
                    totals[entry[at + ROW_GIVER] * THINGS + thing] -= much[i];
                    totals[entry[at + ROW_TAKER] * THINGS + thing] += much[i];
                }
            }
            endDay(day);
            findUneven();
        }

        private void endDay(int day) {
            int up = 0;
            for (int i = 0; i < presentMany; i++) {
                if (today[present[i]] > 0) {
                    up |= 1 << present[i];
                }
            }
            for (int i = 0; i < presentMany; i++) {
                if (today[present[i]] != 0) {
                    book(present[i], day, up);
                }
            }
        }

        private void book(int family, int day, int up) {
            int bit = 1 << family;
            long got = today[family];
            today[family] = 0;
            if ((begun & bit) == 0) {
                begun |= bit;
                paidAtFirst[family] = up;
                if (got > 0) {
                    spoilt |= bit;
                }
            } else if (held[family] < 0) {
                outDays[family] -= held[family] * (day - lastDay[family]);
            }
            if (got > 0) {
                risen |= bit;
            } else if ((risen & bit) != 0) {
                spoilt |= bit;
            }
            held[family] += got;
            lastDay[family] = day;
        }

        private void findUneven() {
            uneven = 0;
            below = 0;
            for (int i = 0; i < presentMany; i++) {
                int family = present[i];
                for (int thing = COIN + 1; thing < THINGS; thing++) {
                    if (totals[family * THINGS + thing] != 0) {
                        uneven |= 1 << family;
                    }
                }
                if (held[family] < 0) {
                    below |= 1 << family;
                }
            }
        }

        /** Bits of the FAMILIES to which l LENDS by the CODE weighed last. */
        int borrowersOf(int l) {
            if (held[l] <= 0 || ((spoilt | uneven) >> l & 1) == 1) {
                return 0;
            }
            return below & paidAtFirst[l] & ~uneven;
        }
    }

    /** Who LENDS to whom in the BUNDLE told, by how many CODES and at what PRICES: kept until it changes. */
    private static final class Tally {
        static final int PRICE_WIDTH = 4;
        private static final int PAIRS = FAMILIES * FAMILIES;
        // Euclid's way over longs ends within some 92 rounds.
        private static final int MOST_ROUNDS = 200;

        boolean known;
        int loanFound = NONE;
        final int[] times = new int[PAIRS];
        final long[] prices = new long[PAIRS * PRICE_WIDTH];
        final long[] least = new long[FAMILIES];

        /** For a BUNDLE that is LOOKED at. */
        void learn(Bundle bundle, Ledger ledger) {
            if (known) {
                return;
            }
            known = true;
            Arrays.fill(times, 0);
            int named = bundle.namedBits();
            int many = bundle.codesLooked();
            int code = 0;
            ledger.take(bundle);
            for (int i = 0; i < many; i++) {
                ledger.weigh(code);
                for (int l = 0; l < FAMILIES; l++) {
                    least[l] = i == 0 ? ledger.held[l] : Math.min(least[l], ledger.held[l]);
                    noteLender(ledger, l);
                }
                code = (code - named) & named;
            }
            loanFound = leastPair(many);
        }

        private void noteLender(Ledger ledger, int l) {
            int borrowers = ledger.borrowersOf(l);
            if (borrowers == 0 || ledger.outDays[l] <= 0) {
                return;
            }
            long divisor = commonDivisor(ledger.held[l], ledger.outDays[l]);
            long upper = divisor > 0 ? ledger.held[l] / divisor : ledger.held[l];
            long lower = divisor > 0 ? ledger.outDays[l] / divisor : ledger.outDays[l];
            for (int b = 0; b < FAMILIES; b++) {
                if ((borrowers >> b & 1) == 1) {
                    notePrice(l * FAMILIES + b, upper, lower);
                }
            }
        }

        private void notePrice(int pair, long upper, long lower) {
            int at = pair * PRICE_WIDTH;
            if (times[pair] == 0 || compareShares(upper, lower, prices[at], prices[at + 1]) < 0) {
                prices[at] = upper;
                prices[at + 1] = lower;
            }
            if (times[pair] == 0 || compareShares(upper, lower, prices[at + 2], prices[at + 3]) > 0) {
                prices[at + 2] = upper;
                prices[at + 3] = lower;
            }
            times[pair]++;
        }

        private int leastPair(int many) {
            for (int pair = 0; pair < PAIRS; pair++) {
                if (times[pair] == many) {
                    return 10 * (pair / FAMILIES) + pair % FAMILIES;
                }
            }
            return NONE;
        }

        private static long commonDivisor(long a, long b) {
            long one = a;
            long other = b;
            for (int i = 0; i < MOST_ROUNDS && other != 0; i++) {
                long rest = one % other;
                one = other;
                other = rest;
            }
            return one;
        }

        /** a / b against c / d, all above 0, by their continued fractions: products might not fit a long. */
        private static int compareShares(long a, long b, long c, long d) {
            int sign = 1;
            for (int i = 0; i < MOST_ROUNDS && b > 0 && d > 0; i++) {
                long one = a / b;
                long other = c / d;
                if (one != other) {
                    return one < other ? -sign : sign;
                }
                long oneRest = a % b;
                long otherRest = c % d;
                if (oneRest == 0 || otherRest == 0) {
                    return sign * Long.compare(oneRest, otherRest);
                }
                a = b;
                b = oneRest;
                c = d;
                d = otherRest;
                sign = -sign;
            }
            return 0;
        }
    }

    /** The statements of a LAW or a WORD. */
    private static final class Rules {
        static final int FIRST_FORM = 0;
        static final int FIRST_THING = 1;
        static final int SECOND_FORM = 2;
        static final int SECOND_THING = 3;
        static final int TIES = 4;
        static final int WITHIN = 5;
        static final int WIDTH = 6;
        // Bits of TIES, as they stand in TIE_WORDS.
        static final int BACK = 1;
        static final int SAME = 2;
        static final int MORE = 4;

        final int[] said = new int[LAW_STATEMENTS * WIDTH];
        int many;

        boolean readRules(Tape tape, int fewest, int most) {
            many = 0;
            for (int i = 0; i < most && !tape.isAtEnd(); i++) {
                if (!readStatement(tape, i * WIDTH)) {
                    return false;
                }
                many++;
            }
            return many >= fewest && tape.isAtEnd() || tape.refuse();
        }

        private boolean readStatement(Tape tape, int at) {
            said[at + SECOND_FORM] = NONE;
            said[at + SECOND_THING] = NONE;
            said[at + TIES] = 0;
            said[at + WITHIN] = NONE;
            if (!tape.takeWord("bar ") || !readForm(tape, at + FIRST_FORM)) {
                return false;
            }
            if (tape.isWord("then ")) {
                tape.advance();
                if (!readForm(tape, at + SECOND_FORM)) {
                    return false;
                }
                readTies(tape, at + TIES);
                if (!readWithin(tape, at + WITHIN)) {
                    return false;
                }
            }
            return tape.takeSign(';');
        }

        /** A FORM and, in the place behind it, its THING or NONE. */
        private boolean readForm(Tape tape, int at) {
            said[at] = tape.takeOneOf(FORM_WORDS);
            said[at + 1] = NONE;
            if (said[at] == NONE) {
                return false;
            }
            if (!tape.isWord("of ")) {
                return true;
            }
            tape.advance();
            said[at + 1] = tape.takeOneOf(THING_WORDS);
            return said[at + 1] != NONE;
        }

        private void readTies(Tape tape, int at) {
            for (int i = 0; i < MOST_BYTES; i++) {
                int tie = tape.placeIn(TIE_WORDS);
                if (tie == NONE) {
                    return;
                }
                said[at] |= 1 << tie;
                tape.advance();
            }
        }

        private boolean readWithin(Tape tape, int at) {
            if (!tape.isWord("within ")) {
                return true;
            }
            tape.advance();
            said[at] = tape.takeNumber(0, MOST_NUMBER);
            return said[at] != NONE;
        }
    }

    /** Whether statements BAR the DEALS heard. */
    private static final class Judge {
        private final int[] familyOf;
        private final int[] leaf = new int[MOST_TOGETHER * MOST_LEAVES * LEAF_WIDTH];
        private int leaves;
        int firstLeaf;
        int secondLeaf;

        Judge(int[] familyOf) {
            this.familyOf = familyOf;
        }

        void hear(Bundle bundle) {
            leaves = 0;
            for (int i = 0; i < bundle.many; i++) {
                hearAlso(bundle.deals[i]);
            }
        }

        void hearPair(Deal one, Deal other) {
            leaves = 0;
            hearAlso(one);
            if (other != one) {
                hearAlso(other);
            }
        }

        private void hearAlso(Deal deal) {
            if ((leaves + deal.leaves) * LEAF_WIDTH <= leaf.length) {
                System.arraycopy(deal.leaf, 0, leaf, leaves * LEAF_WIDTH, deal.leaves * LEAF_WIDTH);
                leaves += deal.leaves;
            }
        }

        /** The first statement that BARS, with its LEAVES in firstLeaf and secondLeaf. */
        int firstThatBars(Rules rules) {
            for (int statement = 0; statement < rules.many; statement++) {
                if (findLeaves(rules.said, statement * Rules.WIDTH)) {
                    return statement;
                }
            }
            return NONE;
        }

        private boolean findLeaves(int[] said, int at) {
            boolean single = said[at + Rules.SECOND_FORM] == NONE;
            for (int one = 0; one < leaves; one++) {
                if (isOf(one, said[at + Rules.FIRST_FORM], said[at + Rules.FIRST_THING])) {
                    int other = single ? NONE : findSecond(said, at, one);
                    if (single || other != NONE) {
                        firstLeaf = one;
                        secondLeaf = other;
                        return true;
                    }
                }
            }
            return false;
        }

        private int findSecond(int[] said, int at, int one) {
            for (int other = 0; other < leaves; other++) {
                if (isOf(other, said[at + Rules.SECOND_FORM], said[at + Rules.SECOND_THING])
                        && isLater(one, other, said[at + Rules.WITHIN])
                        && isTied(one * LEAF_WIDTH, other * LEAF_WIDTH, said[at + Rules.TIES])) {
                    return other;
                }
            }
            return NONE;
        }

        private boolean isOf(int one, int form, int thing) {
            int at = one * LEAF_WIDTH;
            return (form == ANY || leaf[at + FORM] == form) && (thing == NONE || leaf[at + THING] == thing);
        }

        private boolean isLater(int one, int other, int within) {
            int apart = leaf[other * LEAF_WIDTH + AT] - leaf[one * LEAF_WIDTH + AT];
            return (apart > 0 || apart == 0 && other > one) && (within == NONE || apart <= within);
        }

        private boolean isTied(int one, int other, int ties) {
            if ((ties & Rules.SAME) != 0 && leaf[one + THING] != leaf[other + THING]) {
                return false;
            }
            if ((ties & Rules.MORE) != 0 && leaf[other + PAY] <= leaf[one + PAY]) {
                return false;
            }
            return (ties & Rules.BACK) == 0
                    || familyOf[leaf[other + TAKER]] == familyOf[leaf[one + GIVER]]
                    && familyOf[leaf[other + GIVER]] == familyOf[leaf[one + TAKER]];
        }
    }

    /** The sets of OFFERED DEALS that are SLY, and the WORDS that would stop them. */
    private static final class Search {
        private static final int SUMS = FAMILIES * THINGS;
        private static final int MOST_SETS = 1 << MOST_OFFERED;
        private static final int UNKNOWN = 0;
        private static final int NO_LOAN = 1;
        private static final int A_LOAN = 2;

        private final Ledger ledger;
        private final Judge judge;
        private final Deal[] offered = new Deal[MOST_OFFERED];
        int offeredMany;
        // The sets found, good for all k up to reach until something changes.
        private final int[] found = new int[MOST_SETS];
        private int foundMany;
        private int reach;
        // Whether a set is a LOAN hangs on the FAMILIES alone: it's weighed once for all LAWS.
        private final int[] weighed = new int[MOST_SETS];
        // Of each OFFERED DEAL the bits of those together with which the LAW BARS it.
        private final int[] barred = new int[MOST_OFFERED];
        private final int[] wordBars = new int[MOST_WORDS * MOST_OFFERED];
        private final int[] needs = new int[MOST_SETS];
        private int needsMany;
        private final Bundle picked = new Bundle();
        // NETS by CODE 0: of each DEAL, and of the first ones picked.
        private final long[] own = new long[MOST_OFFERED * SUMS];
        private final long[] sums = new long[(MOST_TOGETHER + 1) * SUMS];

        Search(Ledger ledger, Judge judge) {
            this.ledger = ledger;
            this.judge = judge;
        }

        /** The LAW or what is OFFERED is another one. */
        void forget() {
            reach = 0;
        }

        /** FAMILIES are other ones. */
        void forgetAll() {
            reach = 0;
            Arrays.fill(weighed, UNKNOWN);
        }

        boolean putOffered(Deal deal) {
            for (int i = 0; i < offeredMany; i++) {
                if (offered[i] == deal) {
                    return false;
                }
            }
            if (offeredMany >= MOST_OFFERED) {
                return false;
            }
            offered[offeredMany] = deal;
            offeredMany++;
            forget();
            return true;
        }

        /** Finds all SLY sets of up to k DEALS. */
        void look(int k, Rules law) {
            if (reach >= k) {
                return;
            }
            reach = k;
            foundMany = 0;
            picked.many = 0;
            findBarred(law, barred, 0);
            Arrays.fill(own, 0L);
            for (int i = 0; i < offeredMany; i++) {
                ledger.sumInto(offered[i], 0, 1, own, i * SUMS);
            }
            grow(0, 0, 0);
        }

        /** A set is BARRED just if two of it (or one) are: a statement tells of two LEAVES at most. */
        private void findBarred(Rules rules, int[] into, int base) {
            for (int i = 0; i < offeredMany; i++) {
                into[base + i] = 0;
                for (int j = 0; j <= i && rules != null; j++) {
                    judge.hearPair(offered[j], offered[i]);
                    if (judge.firstThatBars(rules) != NONE) {
                        into[base + i] |= 1 << j;
                    }
                }
            }
        }

        private void grow(int level, int next, int set) {
            if (level >= reach || level >= MOST_TOGETHER) {
                return;
            }
            for (int i = next; i < offeredMany; i++) {
                int more = set | 1 << i;
                picked.many = level;
                picked.push(offered[i]);
                // What is barred or not LOOKED at stays so with more DEALS.
                if ((barred[i] & more) != 0 || !picked.isLooked()) {
                    continue;
                }
                for (int j = 0; j < SUMS; j++) {
                    sums[(level + 1) * SUMS + j] = sums[level * SUMS + j] + own[i * SUMS + j];
                }
                if (mayLend((level + 1) * SUMS) && isLoan(more) && foundMany < MOST_SETS) {
                    found[foundMany] = more;
                    foundMany++;
                }
                grow(level + 1, i + 1, more);
            }
        }

        private boolean isLoan(int set) {
            if (weighed[set] == UNKNOWN) {
                weighed[set] = ledger.findLoan(picked) == NONE ? NO_LOAN : A_LOAN;
            }
            return weighed[set] == A_LOAN;
        }

        /** Whether the NETS by CODE 0 leave room for a LOAN: most sets fall here, at little cost. */
        private boolean mayLend(int base) {
            boolean above = false;
            boolean below = false;
            for (int family = 0; family < FAMILIES; family++) {
                int at = base + family * THINGS;
                boolean even = sums[at + COIN] != 0;
                for (int thing = COIN + 1; thing < THINGS && even; thing++) {
                    even = sums[at + thing] == 0;
                }
                above |= even && sums[at + COIN] > 0;
                below |= even && sums[at + COIN] < 0;
            }
            return above && below;
        }

        int howMany(int k) {
            int many = 0;
            for (int i = 0; i < foundMany; i++) {
                if (Integer.bitCount(found[i]) <= k) {
                    many++;
                }
            }
            return many;
        }

        int fewest(int k) {
            int best = NONE;
            for (int i = 0; i < foundMany; i++) {
                if (Integer.bitCount(found[i]) <= k && (best == NONE || isLess(found[i], best))) {
                    best = found[i];
                }
            }
            return best;
        }

        private static boolean isLess(int set, int best) {
            int many = Integer.bitCount(set);
            int bestMany = Integer.bitCount(best);
            return many < bestMany || many == bestMany && set < best;
        }

        /** The fewest of the usable WORDS that bar all SLY sets by k. */
        int fewestWords(int k, Rules[] words, int usable) {
            for (int word = 0; word < MOST_WORDS; word++) {
                if ((usable >> word & 1) == 1) {
                    findBarred(words[word], wordBars, word * MOST_OFFERED);
                }
            }
            needsMany = 0;
            for (int i = 0; i < foundMany; i++) {
                if (Integer.bitCount(found[i]) <= k) {
                    putNeed(wordsThatBar(found[i], usable));
                }
            }
            int best = NONE;
            for (int set = 0; set <= usable; set++) {
                if ((set & ~usable) == 0 && (best == NONE || isLess(set, best)) && meetsNeeds(set)) {
                    best = set;
                }
            }
            return best;
        }

        private int wordsThatBar(int set, int usable) {
            int bits = 0;
            for (int word = 0; word < MOST_WORDS; word++) {
                for (int i = 0; i < offeredMany && (usable >> word & 1) == 1; i++) {
                    if ((set >> i & 1) == 1 && (wordBars[word * MOST_OFFERED + i] & set) != 0) {
                        bits |= 1 << word;
                    }
                }
            }
            return bits;
        }

        private void putNeed(int bits) {
            for (int i = 0; i < needsMany; i++) {
                if (needs[i] == bits) {
                    return;
                }
            }
            if (needsMany < MOST_SETS) {
                needs[needsMany] = bits;
                needsMany++;
            }
        }

        private boolean meetsNeeds(int set) {
            for (int i = 0; i < needsMany; i++) {
                if ((needs[i] & set) == 0) {
                    return false;
                }
            }
            return true;
        }
    }

    /** How DEALS stand to one another: whether two are the SAME, and which ones hang together. */
    private static final class Kinship {
        private final int[] keys = new int[2 * MOST_ROWS];
        private final int[] slots = new int[2 * MOST_ROWS];
        private final long[] sums = new long[2 * MOST_ROWS];
        private int keysMany;
        final int[] leastOf = new int[MOST_DEALS];
        final Bundle together = new Bundle();
        private final int[] families = new int[MOST_DEALS];

        int firstApart(Deal one, Deal other) {
            keysMany = 0;
            giveSlots(one, 0);
            giveSlots(other, MOST_ROWS);
            int choices = Math.max(one.choices, other.choices);
            // A CODE with a bit that neither names does as the lesser one without it.
            int named = one.events | other.events | ((1 << choices) - 1) << EVENTS;
            int many = 1 << Integer.bitCount(named);
            int code = 0;
            for (int i = 0; i < many; i++) {
                Arrays.fill(sums, 0L);
                pour(one, 0, code, 1);
                pour(other, MOST_ROWS, code, -1);
                if (!isLevel()) {
                    return code;
                }
                code = (code - named) & named;
            }
            return NONE;
        }

        /** Rows of the same DAY, HANDS and THING share a slot. */
        private void giveSlots(Deal deal, int base) {
            for (int k = 0; k < deal.rows; k++) {
                int at = k * ROW_WIDTH;
                int key = deal.row[at + ROW_DAY] * HANDS + deal.row[at + ROW_GIVER];
                key = (key * HANDS + deal.row[at + ROW_TAKER]) * THINGS + deal.row[at + ROW_THING];
                int slot = 0;
                while (slot < keysMany && keys[slot] != key) {
                    slot++;
                }
                if (slot == keysMany) {
                    keys[slot] = key;
                    keysMany++;
                }
                slots[base + k] = slot;
            }
        }

        private void pour(Deal deal, int base, int code, int sign) {
            for (int k = 0; k < deal.rows; k++) {
                if (deal.isPassing(k, code)) {
                    sums[slots[base + k]] += sign * deal.much[k];
                }
            }
        }

        private boolean isLevel() {
            for (int slot = 0; slot < keysMany; slot++) {
                if (sums[slot] != 0) {
                    return false;
                }
            }
            return true;
        }

        void gather(Deal[] deals, int many, int days, int[] familyOf) {
            for (int i = 0; i < many; i++) {
                leastOf[i] = i;
                families[i] = deals[i].familiesIn(familyOf);
                for (int j = 0; j < i; j++) {
                    if (leastOf[i] != leastOf[j] && hangTogether(deals[i], deals[j], days)) {
                        join(leastOf[i], leastOf[j], i);
                    }
                }
            }
        }

        private boolean hangTogether(Deal one, Deal other, int days) {
            int things = one.things & other.things & ~(1 << COIN);
            return things != 0 && (families[one.number] & families[other.number]) != 0
                    && Math.abs(one.signed - other.signed) <= days;
        }

        private void join(int one, int other, int last) {
            int least = Math.min(one, other);
            for (int i = 0; i <= last; i++) {
                if (leastOf[i] == one || leastOf[i] == other) {
                    leastOf[i] = least;
                }
            }
        }

        int heaps(int many) {
            int heaps = 0;
            for (int i = 0; i < many; i++) {
                if (leastOf[i] == i) {
                    heaps++;
                }
            }
            return heaps;
        }

        /** Puts a DEAL's GROUP together; false, if it's of too many. */
        boolean fillBundle(Deal[] deals, int many, int deal) {
            together.many = 0;
            for (int i = 0; i < many; i++) {
                if (leastOf[i] == leastOf[deal]) {
                    if (together.many >= MOST_TOGETHER) {
                        return false;
                    }
                    together.push(deals[i]);
                }
            }
            return true;
        }
    }
}
