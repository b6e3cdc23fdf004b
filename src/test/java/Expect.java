/** Counts what is not as due, and ends a test. */
final class Expect {
    private int asked;
    private int wrong;

    void is(String what, long got, long want) {
        asked++;
        if (got != want) {
            wrong++;
            System.out.println(what + ": " + text(got) + ", due is " + text(want));
        }
    }

    void is(String what, boolean got) {
        is(what, got ? 1 : 0, 1);
    }

    void call(String what, Pair.Call call, long want) {
        is(what, Pair.outcome(call), want);
    }

    void index(String what, Pair.Call call) {
        call(what, call, Pair.THROWS_INDEX);
    }

    void argument(String what, Pair.Call call) {
        call(what, call, Pair.THROWS_ARGUMENT);
    }

    void state(String what, Pair.Call call) {
        call(what, call, Pair.THROWS_STATE);
    }

    private static String text(long answer) {
        if (answer == Pair.THROWS_INDEX) {
            return "throws.IndexOutOfBoundsException";
        }
        if (answer == Pair.THROWS_ARGUMENT) {
            return "throws.IllegalArgumentException";
        }
        if (answer == Pair.THROWS_STATE) {
            return "throws.IllegalStateException";
        }
        return answer == Long.MIN_VALUE ? "throws what the machine throws" : Long.toString(answer);
    }

    void finish() {
        System.out.println(wrong == 0 ? asked + " answers are as due" : wrong + " of " + asked + " are not as due");
        if (wrong != 0) {
            System.exit(1);
        }
    }
}
