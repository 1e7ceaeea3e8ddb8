import java.lang.reflect.Method;
import java.util.Random;

/** No call throws: any numbers, in objects that are empty and in ones that are as full as can be. */
public final class WildTest {
    private static final int[] WILD = {Integer.MIN_VALUE, Integer.MIN_VALUE + 1, -1000000, -3, -2, -1, 0, 1, 2, 3, 5, 6, 7,
        8, 9, 10, 11, 12, 15, 16, 23, 24, 31, 32, 63, 255, 256, 399, 400, 600, 9999, 10000, 1 << 22, 1 << 23, 1 << 30,
        Integer.MAX_VALUE - 1, Integer.MAX_VALUE};

    public static void main(String[] args) throws Exception {
        Random random = new Random(5);
        callAll(new LoanNames(), random);
        callAll(full(), random);
        LoanNames x = full();
        int many = x.count(0) + x.count(1) + x.count(3) + x.count(4) + x.count(5) + x.count(6) + x.count(7);
        if (many != 24 + 6 + 12 + 6 + 10 + 6 + 72 || x.passed(0, -1, 0) != 216) {
            System.out.println("the object is not as full as can be: " + many);
            System.exit(1);
        }
    }

    private static LoanNames full() {
        LoanNames x = new LoanNames();
        String hires = Check.repeat("hire a b coin 9 for 1 at 3 back 7", 12, ",");
        String choices = "choice a{choice b{choice c{after 1{times 9{if rain{" + Check.repeat("sale c d mule 1 for 1 at 0", 11, ",")
            + "}}}}}},gift h g grain 1 at 0";
        for (int i = 0; i < 24; i++) {
            Check.deal(x, i % 3 == 2 ? choices : hires, i);
        }
        for (int i = 0; i < 6; i++) {
            Check.law(x, Check.repeat("bar gift then sale back;", 16, ""));
            x.add(i * 3);
        }
        for (int i = 0; i < 12; i++) {
            Check.word(x, Check.repeat("bar any then hire of grain same;", 12, "\n"));
            x.offer(i + 12);
        }
        for (int i = 0; i < 6; i++) {
            x.honest();
        }
        return x;
    }

    private static void callAll(LoanNames x, Random random) throws Exception {
        for (int round = 0; round < 300; round++) {
            for (Method method : LoanNames.class.getMethods()) {
                if (method.getDeclaringClass() != LoanNames.class) {
                    continue;
                }
                // Answers must come, whatever they are: an exception ends the test.
                Object[] wild = new Object[method.getParameterCount()];
                for (int i = 0; i < wild.length; i++) {
                    wild[i] = WILD[random.nextInt(WILD.length)];
                }
                method.invoke(x, wild);
            }
        }
    }
}
