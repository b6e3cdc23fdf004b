/** Random runs: the class answers as the model does, in each of the first 512 calls. */
public final class ChaosTest {
    private static final int CALLS = 512;

    public static void main(String[] args) {
        int first = args.length > 0 ? Integer.parseInt(args[0]) : 1;
        int last = args.length > 1 ? Integer.parseInt(args[1]) : 400;
        int calls = args.length > 2 ? Integer.parseInt(args[2]) : CALLS;
        long[] codes = new long[16];
        int wrong = 0;
        for (int seed = first; seed <= last && wrong < 3; seed++) {
            Chaos chaos = new Chaos(seed);
            try {
                chaos.run(calls);
            } catch (Pair.Differs e) {
                wrong++;
                System.out.println("seed " + seed + ", call " + chaos.p.log.size() + ": " + e.getMessage());
            }
            for (int k = 0; k < codes.length; k++) {
                codes[k] += chaos.p.codes[k];
            }
        }
        StringBuilder text = new StringBuilder("answers of deliver:");
        for (int k = 0; k < codes.length; k++) {
            text.append(' ').append(k).append(": ").append(codes[k]);
        }
        System.out.println(text);
        System.out.println(wrong == 0 ? "all runs are as due" : wrong + " runs are wrong");
        if (wrong != 0) {
            System.exit(1);
        }
    }
}
