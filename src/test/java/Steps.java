import java.util.function.Consumer;

/** Steps that many tests take, and a frame for tests that each have a new object. */
final class Steps {
    static final int NONE = KeyGroups.NONE;

    private final Expect expect;
    private String sentence = "";

    Steps(Expect expect) {
        this.expect = expect;
    }

    /** Makes the calls of one test on a new object; the sentence is what they are about. */
    void edge(String about, Consumer<KeyGroups> calls) {
        sentence = about;
        calls.accept(new KeyGroups());
    }

    void due(long got, long want) {
        expect.is(sentence, got, want);
    }

    void due(boolean got) {
        expect.is(sentence, got);
    }

    void index(Pair.Call call) {
        expect.index(sentence, call);
    }

    void argument(Pair.Call call) {
        expect.argument(sentence, call);
    }

    void state(Pair.Call call) {
        expect.state(sentence, call);
    }

    /** A refused call changes nothing that can be asked of a member or counted. */
    void refusedState(KeyGroups x, int member, Pair.Call call) {
        long[] before = picture(x, member);
        long[] again = picture(x, member);
        state(call);
        long[] after = picture(x, member);
        for (int k = 0; k < before.length; k++) {
            expect.is(sentence + ": answer " + k + " as before", after[k], again[k]);
        }
    }

    /** What can be asked of a member, and counted; who looks twice sees the same numbers. */
    static long[] picture(KeyGroups x, int member) {
        long[] seen = new long[17];
        for (int what = 0; what <= 12; what++) {
            seen[what] = x.member(member, what);
        }
        for (int what = 0; what <= 3; what++) {
            seen[13 + what] = x.count(what);
        }
        return seen;
    }

    /** Members 0 .. size - 1 at the leaves of their numbers, by one commit of member 0 with a PATH. */
    static void group(KeyGroups x, int size) {
        grow(x, size, true);
    }

    static void grow(KeyGroups x, int size, boolean path) {
        x.create(0);
        if (size > 1) {
            for (int m = 1; m < size; m++) {
                x.propose(0, 1, x.offer(m));
            }
            int c = x.commit(0, path);
            x.deliver(c, 0);
            for (int m = 1; m < size; m++) {
                x.deliver(c + 1, m);
            }
        }
    }

    /** Member by makes a commit and these take it: 0 if all of them do. */
    static int commit(KeyGroups x, int by, boolean path, int... others) {
        int c = x.commit(by, path);
        int sum = x.deliver(c, by);
        for (int m : others) {
            sum += x.deliver(c, m);
        }
        return sum;
    }

    static void bytes(KeyGroups x, int... b) {
        for (int one : b) {
            x.feed(one << 24, 0, 0, 0, 0);
            x.end(1);
        }
    }

    /** The tape gets so many bytes 0 more. */
    static void zeroes(KeyGroups x, int n) {
        for (int left = n; left > 0; left -= 20) {
            x.end(Math.min(left, 20));
        }
    }

    /** The intruder posts until there are so many messages. */
    static void fill(KeyGroups x, int until) {
        for (int k = x.count(1); k < until; k++) {
            x.post();
        }
    }

    /** The number of the term at a place of a message. */
    static int termAt(KeyGroups x, int message, int k) {
        return x.sign(message, k) - 256;
    }

    /** The number of the secret of the PUBLIC at a place of a message. */
    static int secretAt(KeyGroups x, int message, int k) {
        return x.term(termAt(x, message, k), 1);
    }

    /** The intruder posts a message again, with one sign changed to a byte. */
    static int withByte(KeyGroups x, int message, int k, int b) {
        x.copy(message, 0, k);
        bytes(x, b);
        x.copy(message, k + 1, 1200);
        return x.post();
    }

    /** The intruder posts a message again, with one sign changed to a term. */
    static int withTerm(KeyGroups x, int message, int k, int term) {
        x.copy(message, 0, k);
        x.place(term);
        x.copy(message, k + 1, 1200);
        return x.post();
    }
}
