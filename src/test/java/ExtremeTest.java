import java.util.Random;

/** Whatever the arguments and the state: only exceptions that the document names, and those alone. */
public final class ExtremeTest {
    private static final int[] NUMBERS = {Integer.MIN_VALUE, Integer.MIN_VALUE + 1, -65536, -2, -1, 0, 1, 2, 3, 4, 5,
        7, 8, 9, 10, 15, 16, 20, 21, 23, 24, 25, 26, 30, 31, 32, 33, 255, 256, 257, 299, 300, 301, 1199, 1200, 1201,
        65535, 65536, 1 << 24, Integer.MAX_VALUE - 1, Integer.MAX_VALUE};

    private static Random random;

    private static int any() {
        return random.nextInt(3) == 0 ? random.nextInt(30) : NUMBERS[random.nextInt(NUMBERS.length)];
    }

    private static int few() {
        return random.nextInt(4) == 0 ? any() : random.nextInt(4);
    }

    private static long call(KeyGroups x, int method, int a, int b, int c) {
        switch (method) {
            case 0:
                x.feed(a, b, c, a, b);
                return 0;
            case 1:
                return x.end(a);
            case 2:
                return x.place(a);
            case 3:
                return x.copy(few(), b, c);
            case 4:
                x.create(few());
                return 0;
            case 5:
                return x.offer(few());
            case 6:
                return x.propose(few(), few(), few());
            case 7:
                return x.commit(few(), a > 9);
            case 8:
                return x.deliver(x.count(1) - 1 - few(), few());
            case 9:
                return x.post();
            case 10:
                return x.make(few(), a, b);
            case 11:
                return x.compromise(few());
            case 12:
                return x.isKnown(a) ? 1 : 0;
            case 13:
                return x.term(a, few());
            case 14:
                return x.ofTerm(a, b);
            case 15:
                return x.message(a);
            case 16:
                return x.sign(few(), b);
            case 17:
                return x.member(few(), b);
            case 18:
                return x.node(few(), b, few());
            default:
                return x.count(few());
        }
    }

    /** Which exceptions each method may throw: 1 index, 2 argument, 4 state. */
    private static final int[] MAY = {0, 0, 1, 0, 5, 5, 7, 5, 1, 4, 3, 1, 0, 0, 0, 0, 0, 0, 0, 0};

    public static void main(String[] args) {
        int wrong = 0;
        for (int seed = 1; seed <= 300; seed++) {
            random = new Random(seed);
            KeyGroups x = new KeyGroups();
            for (int k = 0; k < 900; k++) {
                int method = random.nextInt(20);
                int a = any();
                int b = any();
                int c = any();
                int thrown = 0;
                String name = "nothing";
                try {
                    call(x, method, a, b, c);
                } catch (RuntimeException e) {
                    name = e.getClass().getName();
                    thrown = e.getClass() == IndexOutOfBoundsException.class ? 1
                            : e.getClass() == IllegalArgumentException.class ? 2
                            : e.getClass() == IllegalStateException.class ? 4 : 8;
                }
                if ((thrown & ~MAY[method]) != 0) {
                    wrong++;
                    System.out.println("seed " + seed + ", call " + k + ": method " + method + " threw " + name);
                }
            }
        }
        System.out.println(wrong == 0 ? "nothing else was thrown" : wrong + " calls threw what they may not");
        if (wrong != 0) {
            System.exit(1);
        }
    }
}
