import java.util.ArrayDeque;
import java.util.ArrayList;
import java.util.HashMap;
import java.util.List;
import java.util.Map;

/** The class and the model side by side: each call goes to both, and both must answer the same. */
final class Pair {
    /** The answers differ, or the class threw what the document does not know. */
    static final class Differs extends RuntimeException {
        private static final long serialVersionUID = 1;

        Differs(String text) {
            super(text);
        }
    }

    /** A term that the intruder can neither find nor make. */
    static final class Unforgeable extends RuntimeException {
        private static final long serialVersionUID = 1;
    }

    interface Call {
        long answer();
    }

    static final long THROWS_INDEX = Long.MIN_VALUE + 1;
    static final long THROWS_ARGUMENT = Long.MIN_VALUE + 2;
    static final long THROWS_STATE = Long.MIN_VALUE + 3;

    final KeyGroups x = new KeyGroups();
    final Model m = new Model();
    final List<String> log = new ArrayList<>();
    final int[] codes = new int[16];

    static long outcome(Call call) {
        try {
            return call.answer();
        } catch (IndexOutOfBoundsException e) {
            return e.getClass() == IndexOutOfBoundsException.class ? THROWS_INDEX : Long.MIN_VALUE;
        } catch (IllegalArgumentException e) {
            return THROWS_ARGUMENT;
        } catch (IllegalStateException e) {
            return THROWS_STATE;
        }
    }

    private long both(String call, Call a, Call b) {
        long want = outcome(b);
        log.add(call + " -> " + want);
        long got;
        try {
            got = outcome(a);
        } catch (RuntimeException e) {
            e.printStackTrace();
            throw new Differs(call + " threw " + e);
        }
        if (got != want) {
            throw new Differs(call + " answered " + got + ", due is " + want);
        }
        return got;
    }

    void feed(int a, int b, int c, int d, int e) {
        both("feed(" + a + ", " + b + ", " + c + ", " + d + ", " + e + ")", () -> {
            x.feed(a, b, c, d, e);
            return 0;
        }, () -> {
            m.feed(a, b, c, d, e);
            return 0;
        });
    }

    long end(int n) {
        return both("end(" + n + ")", () -> x.end(n), () -> m.end(n));
    }

    long place(int t) {
        return both("place(" + t + ")", () -> x.place(t), () -> m.place(t));
    }

    long copy(int msg, int k, int n) {
        return both("copy(" + msg + ", " + k + ", " + n + ")", () -> x.copy(msg, k, n), () -> m.copy(msg, k, n));
    }

    long create(int who) {
        return both("create(" + who + ")", () -> {
            x.create(who);
            return 0;
        }, () -> {
            m.create(who);
            return 0;
        });
    }

    long offer(int who) {
        return both("offer(" + who + ")", () -> x.offer(who), () -> m.offer(who));
    }

    long propose(int who, int kind, int of) {
        return both("propose(" + who + ", " + kind + ", " + of + ")",
                () -> x.propose(who, kind, of), () -> m.propose(who, kind, of));
    }

    long commit(int who, boolean path) {
        return both("commit(" + who + ", " + path + ")", () -> x.commit(who, path), () -> m.commit(who, path));
    }

    long deliver(int msg, int who) {
        long code = both("deliver(" + msg + ", " + who + ")", () -> x.deliver(msg, who), () -> m.deliver(msg, who));
        if (code >= 0 && code < codes.length) {
            codes[(int) code]++;
        }
        return code;
    }

    long post() {
        return both("post()", x::post, m::post);
    }

    long make(int sort, int a, int b) {
        return both("make(" + sort + ", " + a + ", " + b + ")", () -> x.make(sort, a, b), () -> m.make(sort, a, b));
    }

    long compromise(int who) {
        return both("compromise(" + who + ")", () -> x.compromise(who), () -> m.compromise(who));
    }

    long isKnown(int t) {
        return both("isKnown(" + t + ")", () -> x.isKnown(t) ? 1 : 0, () -> m.isKnown(t) ? 1 : 0);
    }

    long term(int t, int what) {
        return both("term(" + t + ", " + what + ")", () -> x.term(t, what), () -> m.term(t, what));
    }

    long ofTerm(int t, int k) {
        return both("ofTerm(" + t + ", " + k + ")", () -> x.ofTerm(t, k), () -> m.ofTerm(t, k));
    }

    long message(int msg) {
        return both("message(" + msg + ")", () -> x.message(msg), () -> m.message(msg));
    }

    long sign(int msg, int k) {
        return both("sign(" + msg + ", " + k + ")", () -> x.sign(msg, k), () -> m.sign(msg, k));
    }

    long member(int who, int what) {
        return both("member(" + who + ", " + what + ")", () -> x.member(who, what), () -> m.member(who, what));
    }

    long node(int who, int n, int what) {
        return both("node(" + who + ", " + n + ", " + what + ")", () -> x.node(who, n, what), () -> m.node(who, n, what));
    }

    long count(int what) {
        return both("count(" + what + ")", () -> x.count(what), () -> m.count(what));
    }

    /** Asks all that can be asked of a member. */
    void lookAt(int who) {
        for (int what = -1; what <= 13; what++) {
            member(who, what);
        }
        int nodes = m.members[who].state == null ? 1 : m.members[who].state.tree.size();
        for (int n = -1; n <= nodes; n++) {
            for (int what = 0; what <= 5; what++) {
                node(who, n, what);
            }
        }
    }

    // ---- forging

    private record Step(Model.T from, int message, int k) { }

    /** The number of a term: told by what can be asked, or made by the intruder. */
    int number(Model.T t) {
        if (t.number != 0 || isTold(t)) {
            return t.number;
        }
        clearTape();
        if (t.sort == Model.NAME || t.sort == Model.SEALED && t.parts.size() > 2) {
            throw new Unforgeable();
        }
        int a = t.parts.isEmpty() ? 0 : number(t.part(0));
        int b = t.parts.size() > 1 ? number(t.part(1)) : t.label;
        for (Object o : t.signs) {
            if (o instanceof Model.T in) {
                number(in);
            }
        }
        put(t.signs);
        long made = make(t.sort, a, b);
        if (made < 0) {
            clearTape();
            throw new Unforgeable();
        }
        if (t.number != made) {
            throw new Differs("the term made is another one");
        }
        return t.number;
    }

    /** Looks for a way to a term from those with numbers and the messages, and goes it. */
    private boolean isTold(Model.T t) {
        Map<Model.T, Step> seen = new HashMap<>();
        ArrayDeque<Model.T> queue = new ArrayDeque<>();
        for (Model.T n : m.numbered) {
            seen.put(n, new Step(null, -1, 0));
            queue.add(n);
        }
        for (int msg = 0; msg < m.messages.size(); msg++) {
            for (int k = 0; k < m.messages.get(msg).size(); k++) {
                if (m.messages.get(msg).get(k) instanceof Model.T in && !seen.containsKey(in)) {
                    seen.put(in, new Step(null, msg, k));
                    queue.add(in);
                }
            }
        }
        while (!queue.isEmpty() && !seen.containsKey(t)) {
            Model.T u = queue.remove();
            for (int k = 0; k < u.parts.size(); k++) {
                if (seen.putIfAbsent(u.part(k), new Step(u, -1, k)) == null) {
                    queue.add(u.part(k));
                }
            }
            for (int k = 0; k < u.signs.size(); k++) {
                if (u.signs.get(k) instanceof Model.T in && seen.putIfAbsent(in, new Step(u, -2, k)) == null) {
                    queue.add(in);
                }
            }
        }
        if (!seen.containsKey(t)) {
            return false;
        }
        ArrayDeque<Model.T> way = new ArrayDeque<>();
        for (Model.T u = t; u != null && u.number == 0; u = seen.get(u).from) {
            way.push(u);
        }
        for (Model.T u : way) {
            Step s = seen.get(u);
            if (s.from == null) {
                sign(s.message, s.k);
            } else if (s.message == -1) {
                term(s.from.number, s.k + 1);
            } else {
                ofTerm(s.from.number, s.k);
            }
        }
        return t.number != 0;
    }

    void clearTape() {
        if (!m.tape.isEmpty() && make(1, 0, 0) < 0) {
            post();
        }
    }

    /** Puts signs, whose terms have numbers, on the tape. */
    void put(List<Object> signs) {
        int k = 0;
        while (k < signs.size()) {
            if (signs.get(k) instanceof Model.T t) {
                place(t.number);
                k++;
                continue;
            }
            int[] words = new int[5];
            int n = 0;
            while (k < signs.size() && n < 20 && signs.get(k) instanceof Integer b) {
                words[n / 4] |= b << (24 - 8 * (n % 4));
                n++;
                k++;
            }
            feed(words[0], words[1], words[2], words[3], words[4]);
            end(n);
        }
    }

    /** The intruder makes and posts these signs: the message's number. */
    int forge(List<Object> signs) {
        clearTape();
        for (Object o : signs) {
            if (o instanceof Model.T t) {
                number(t);
            }
        }
        put(signs);
        return (int) post();
    }

    Model.T forgedName() {
        return m.byNumber((int) make(0, 0, 0));
    }
}
