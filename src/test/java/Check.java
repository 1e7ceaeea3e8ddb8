import java.nio.charset.StandardCharsets;

/** What all tests of the project share: telling texts to an object, and counting wrong answers. */
final class Check {
    private int wrong;

    void due(String what, long got, long want) {
        if (got != want) {
            wrong++;
            if (wrong <= 40) {
                System.out.println(what + " answered " + got + ", due is " + want);
            }
        }
    }

    void due(String what, boolean got, boolean want) {
        due(what, got ? 1 : 0, want ? 1 : 0);
    }

    int wrong() {
        return wrong;
    }

    void end() {
        if (wrong != 0) {
            System.out.println(wrong + " answers are not as due");
            System.exit(1);
        }
    }

    /** The numbers that feed a text, blanks behind it. */
    static int[] numbers(byte[] text) {
        int[] numbers = new int[(text.length + 19) / 20 * 5];
        for (int i = 0; i < numbers.length * 4; i++) {
            int sign = i < text.length ? text[i] & 255 : ' ';
            numbers[i / 4] = numbers[i / 4] << 8 | sign;
        }
        return numbers;
    }

    static void feed(LoanNames x, String text) {
        int[] n = numbers(text.getBytes(StandardCharsets.ISO_8859_1));
        for (int i = 0; i < n.length; i += 5) {
            x.feed(n[i], n[i + 1], n[i + 2], n[i + 3], n[i + 4]);
        }
    }

    static int deal(LoanNames x, String text, int signed) {
        feed(x, text);
        return x.deal(text.length(), signed);
    }

    static int deal(LoanNames x, String text) {
        return deal(x, text, 0);
    }

    static int law(LoanNames x, String text) {
        feed(x, text);
        return x.law(text.length());
    }

    static int word(LoanNames x, String text) {
        feed(x, text);
        return x.word(text.length());
    }

    /** A new object with these DEALS, all in the BUNDLE. */
    static LoanNames bundled(String... texts) {
        LoanNames x = new LoanNames();
        for (String text : texts) {
            x.add(deal(x, text));
        }
        return x;
    }

    static String repeat(String text, int times, String between) {
        StringBuilder all = new StringBuilder();
        for (int i = 0; i < times; i++) {
            all.append(i == 0 ? "" : between).append(text);
        }
        return all.toString();
    }
}
