/**
 * Answer 1 of what is delivered: each sentence that says which SIGNS are none of the messages, with
 * tests on new objects. A message that can be read gets another answer than 1, by what else is
 * wrong with it: a PACKAGE 4, a PROPOSAL or COMMIT to who is OUT 2, a WELCOME for nobody 13.
 */
public final class EdgeReadTest {
    private static final Expect E = new Expect();
    private static final Steps S = new Steps(E);
    private static final int OUT = 23;

    // What the intruder makes first, with the numbers that it gets on a new object.
    private static final int KEY = 2;
    private static final int HASH = 26;
    private static final int MAC = 27;
    private static final int SIGNED = 28;
    private static final int SEALED = 29;
    private static final int NAME = 30;
    private static final int DERIVED = 31;
    private static final int MIXED = 32;
    private static final int T = 256;

    public static void main(String[] args) {
        prefixes();
        exchanged();
        otherSorts();
        notSeen();
        firstSigns();
        packages();
        contents();
        commits();
        paths();
        joiners();
        trees();
        treeNodes();
        unmerged();
        anyNumbers();
        E.finish();
    }

    // ---- signs that the intruder writes

    private static int[] join(int[]... parts) {
        int n = 0;
        for (int[] part : parts) {
            n += part.length;
        }
        int[] all = new int[n];
        n = 0;
        for (int[] part : parts) {
            for (int sign : part) {
                all[n] = sign;
                n++;
            }
        }
        return all;
    }

    private static int[] of(int... signs) {
        return signs;
    }

    /** A ROW whose length is as told, right or not. */
    private static int[] row(int length, int... signs) {
        return join(of(length >> 8 & 255, length & 255), signs);
    }

    private static int[] row(int[] signs) {
        return row(signs.length, signs);
    }

    private static int[] leaf(int source) {
        return join(of(0, 7, T + KEY, T + KEY, source), source == 3 ? of(T + HASH) : of(), of(T + SIGNED));
    }

    private static int[] pack() {
        return join(of(1, T + KEY), leaf(1), of(T + SIGNED));
    }

    private static int[] proposal(int[] content) {
        return join(of(2, 0, 0, 0, 0, 0, 1), content, of(T + SIGNED, T + MAC));
    }

    private static int[] commit(int[] entries, int[] path) {
        return join(of(3, 0, 0, 0, 0, 0, 1), entries, path, of(T + SIGNED, T + MAC, T + MAC));
    }

    private static int[] path(int[] nodes) {
        return join(of(1), leaf(3), nodes);
    }

    private static int[] welcome(int[] joiners, int[] tree) {
        return join(of(4), joiners, of(0, 0, 0, 0, T + HASH, 0, 0, 0), tree, of(T + MAC, T + SIGNED));
    }

    private static final int[] NO_PATH = {0};

    /** Posts signs on a new object and delivers them to a member that is OUT. */
    private static void answer(String about, int want, int[] signs) {
        S.edge(about, x -> {
            x.make(1, 0, 0);
            x.make(2, 1, 0);
            x.make(7, 1, 0);
            x.make(6, KEY, 1);
            x.make(0, 0, 0);
            x.make(3, 1, 0);
            S.due(x.make(4, 1, 1), MIXED);
            put(x, signs);
            S.due(x.deliver(x.post(), OUT), want);
            S.due(x.count(0), MIXED);
        });
    }

    private static void put(KeyGroups x, int[] signs) {
        int k = 0;
        while (k < signs.length) {
            if (signs[k] >= T) {
                x.place(signs[k] - T);
                k++;
                continue;
            }
            int[] words = new int[5];
            int n = 0;
            while (k < signs.length && n < 20 && signs[k] < T) {
                words[n / 4] |= signs[k] << 24 - 8 * (n % 4);
                n++;
                k++;
            }
            x.feed(words[0], words[1], words[2], words[3], words[4]);
            x.end(n);
        }
    }

    // ---- messages that members made, changed

    /** A message of a member and who takes it. */
    private interface Sent {
        int[] by(KeyGroups x);
    }

    private static final Sent PACKAGE = x -> new int[] {x.offer(1), 0};

    private static final Sent ADD = x -> {
        Steps.group(x, 2);
        return new int[] {x.propose(1, 1, x.offer(5)), 0};
    };

    private static final Sent UPDATE = x -> {
        Steps.group(x, 2);
        return new int[] {x.propose(1, 2, 0), 0};
    };

    private static final Sent REMOVE = x -> {
        Steps.group(x, 2);
        return new int[] {x.propose(1, 3, 0), 0};
    };

    private static final Sent COMMIT = x -> {
        Steps.group(x, 3);
        int update = x.propose(2, 2, 0);
        x.deliver(update, 0);
        x.deliver(update, 1);
        x.propose(1, 1, x.offer(5));
        return new int[] {x.commit(1, true), 0};
    };

    private static final Sent WITHOUT_PATH = x -> {
        Steps.group(x, 2);
        x.propose(1, 1, x.offer(5));
        return new int[] {x.commit(1, false), 0};
    };

    private static final Sent JOIN = x -> {
        Steps.group(x, 2);
        x.propose(1, 1, x.offer(5));
        return new int[] {x.commit(1, true) + 1, 5};
    };

    private static final Sent[] ALL = {PACKAGE, ADD, UPDATE, REMOVE, COMMIT, WITHOUT_PATH, JOIN};
    private static final String[] NAMES = {"PACKAGE", "ADD", "UPDATE", "REMOVE", "COMMIT", "COMMIT without a PATH",
        "WELCOME"};

    private static void prefixes() {
        for (int sort = 0; sort < ALL.length; sort++) {
            Sent sent = ALL[sort];
            S.edge("it ends within a thing: " + NAMES[sort], x -> {
                int[] m = sent.by(x);
                for (int k = 0; k < x.message(m[0]); k++) {
                    x.copy(m[0], 0, k);
                    S.due(x.deliver(x.post(), m[1]), 1);
                }
                S.due(x.deliver(m[0], m[1]), 0);
            });
            S.edge("SIGNS left over: " + NAMES[sort], x -> {
                int[] m = sent.by(x);
                x.copy(m[0], 0, 1200);
                x.end(1);
                S.due(x.deliver(x.post(), m[1]), 1);
                x.copy(m[0], 0, 1200);
                x.place(1);
                S.due(x.deliver(x.post(), m[1]), 1);
                x.copy(m[0], 0, 1200);
                x.copy(m[0], 0, 1200);
                S.due(x.deliver(x.post(), m[1]), 1);
                S.due(x.deliver(m[0], m[1]), 0);
            });
            S.edge("it begins with a sign too much: " + NAMES[sort], x -> {
                int[] m = sent.by(x);
                x.end(1);
                x.copy(m[0], 0, 1200);
                S.due(x.deliver(x.post(), m[1]), 1);
            });
        }
    }

    private static void exchanged() {
        for (int sort = 0; sort < ALL.length; sort++) {
            Sent sent = ALL[sort];
            S.edge("a term for a byte: " + NAMES[sort], x -> {
                int[] m = sent.by(x);
                for (int k = 0; k < x.message(m[0]); k++) {
                    if (x.sign(m[0], k) < 256) {
                        S.due(x.deliver(Steps.withTerm(x, m[0], k, KEY), m[1]), 1);
                    }
                }
                S.due(x.deliver(m[0], m[1]), 0);
            });
            S.edge("a byte for a term: " + NAMES[sort], x -> {
                int[] m = sent.by(x);
                for (int k = 0; k < x.message(m[0]); k++) {
                    if (x.sign(m[0], k) >= 256) {
                        S.due(x.deliver(Steps.withByte(x, m[0], k, 1), m[1]), 1);
                    }
                }
                S.due(x.deliver(m[0], m[1]), 0);
            });
            S.edge("a term of another sort, ZERO: " + NAMES[sort], x -> {
                int[] m = sent.by(x);
                for (int k = 0; k < x.message(m[0]); k++) {
                    if (x.sign(m[0], k) >= 256) {
                        S.due(x.deliver(Steps.withTerm(x, m[0], k, 1), m[1]), 1);
                    }
                }
                S.due(x.deliver(m[0], m[1]), 0);
            });
        }
    }

    private static void otherSorts() {
        int[] terms = {NAME, HASH, MAC, DERIVED, MIXED, KEY, SEALED, SIGNED};
        for (int sort = 0; sort < terms.length; sort++) {
            int sign = T + terms[sort];
            int[] pack = pack();
            String about = "a term of another sort: " + sort + " for ";
            pack[1] = sign;
            answer(about + "an init key", sort == 5 ? 4 : 1, pack);
            answer(about + "a tag", sort == 2 ? 2 : 1, join(of(2, 0, 0, 0, 0, 0, 1, 3, 0, 1, T + SIGNED), of(sign)));
            answer(about + "a signature", sort == 7 ? 2 : 1, of(2, 0, 0, 0, 0, 0, 1, 3, 0, 1, sign, T + MAC));
            answer(about + "a HASH of a PROPOSAL", sort == 1 ? 2 : 1, commit(row(of(1, sign)), NO_PATH));
            answer(about + "a SEALED of a PATH", sort == 6 ? 2 : 1,
                    commit(row(of()), path(row(join(of(T + KEY), row(of(sign)))))));
            answer(about + "a key of a PATH", sort == 5 ? 2 : 1,
                    commit(row(of()), path(row(join(of(sign), row(of()))))));
            answer(about + "a SEALED of a WELCOME", sort == 6 ? 13 : 1, welcome(row(of(T + HASH, sign)), row(of(0))));
            answer(about + "a node's parent hash", sort == 1 ? 13 : 1,
                    welcome(row(of()), row(join(of(0, 2, T + KEY, sign), row(of()), of(0)))));
        }
    }

    private static void notSeen() {
        S.edge("not SEEN: a PUBLIC; one may be 1 first and taken later", x -> {
            x.create(0);
            x.create(1);
            x.compromise(9);
            int key = x.node(0, 0, 0);
            int init = x.make(5, x.make(0, 0, 0), 0);
            int secret = x.term(2 + 9, 1);
            put(x, of(0, 9, T + key, T + 2 + 9, 1));
            int leafSigned = x.make(7, secret, 0);
            put(x, of(1, T + init, 0, 9, T + key, T + 2 + 9, 1, T + leafSigned));
            int signed = x.make(7, secret, 0);
            put(x, of(1, T + init, 0, 9, T + key, T + 2 + 9, 1, T + leafSigned, T + signed));
            int message = x.post();
            S.due(x.deliver(message, 1), 1);
            S.argument(() -> x.propose(1, 1, message));
            x.compromise(0);
            S.due(x.deliver(message, 1), 0);
            S.due(x.propose(1, 1, message), 1);
        });
        S.edge("not SEEN: a SIGNED", x -> {
            x.create(0);
            int unseen = x.ofTerm(x.member(0, 4), 9) - 256;
            S.due(x.term(unseen, 0), 7);
            int pack = x.offer(1);
            int bad = Steps.withTerm(x, pack, 8, unseen);
            S.due(x.deliver(bad, 1), 1);
            x.compromise(0);
            S.due(x.deliver(bad, 1), 4);
        });
        S.edge("not SEEN: a MAC", x -> {
            Steps.group(x, 2);
            x.create(5);
            int unseen = x.ofTerm(x.member(5, 6), 1) - 256;
            S.due(x.term(unseen, 0), 2);
            int remove = x.propose(1, 3, 0);
            int bad = Steps.withTerm(x, remove, 11, unseen);
            S.due(x.deliver(bad, 0), 1);
            x.compromise(5);
            S.due(x.deliver(bad, 0), 5);
        });
        S.edge("SEEN: every HASH, also of what nobody sent", x -> {
            x.create(0);
            int hash = x.member(0, 4);
            x.make(2, 1, 0);
            x.make(7, 1, 0);
            put(x, of(3, 0, 0, 0, 0, 0, 1, 0, 2, 1, T + hash, 0, T + 28, T + 27, T + 27));
            S.due(x.deliver(x.post(), OUT), 2);
        });
    }

    // ---- messages written sign by sign

    private static void firstSigns() {
        answer("no SIGNS at all", 1, of());
        for (int first : new int[] {0, 5, 6, 128, 255}) {
            answer("a u8 that is none: " + first, 1, of(first));
        }
        answer("a term ahead of all", 1, of(T + KEY));
        answer("a PACKAGE marked 2", 1, join(of(2), java.util.Arrays.copyOfRange(pack(), 1, 9)));
    }

    private static void packages() {
        answer("a PACKAGE that can be read", 4, pack());
        for (int source : new int[] {0, 2, 3, 4, 255}) {
            int[] pack = pack();
            pack[6] = source;
            answer("a PACKAGE of another SOURCE: " + source, 1, pack);
        }
        answer("a PACKAGE with a LEAF of SOURCE 3 and its parent hash", 1,
                join(of(1, T + KEY), leaf(3), of(T + SIGNED)));
    }

    private static void contents() {
        int[] add = join(of(1), row(pack()));
        answer("an ADD that can be read", 2, proposal(add));
        answer("an UPDATE that can be read", 2, proposal(join(of(2), leaf(2))));
        answer("a REMOVE that can be read", 2, proposal(of(3, 0, 1)));
        for (int kind : new int[] {0, 4, 255}) {
            answer("a CONTENT of another u8: " + kind, 1, proposal(of(kind, 0, 1)));
        }
        for (int length : new int[] {0, 1, 8, 10, 11, 12, 9 + 256, 65535}) {
            answer("an ADD whose ROW has the length " + length, 1, proposal(join(of(1), row(length, pack()))));
        }
        answer("an ADD of nothing", 1, proposal(join(of(1), row(of()))));
        answer("an ADD of a PACKAGE and a sign", 1, proposal(join(of(1), row(join(pack(), of(0))))));
        answer("an ADD of two PACKAGES", 1, proposal(join(of(1), row(join(pack(), pack())))));
        answer("an ADD of what is no PACKAGE", 1, proposal(join(of(1), row(join(of(2), leaf(2))))));
        int[] other = pack();
        other[0] = 2;
        answer("an ADD of a PACKAGE marked 2", 1, proposal(join(of(1), row(other))));
        for (int source : new int[] {0, 1, 4}) {
            answer("an UPDATE of SOURCE " + source, 1, proposal(join(of(2), leaf(source))));
        }
        answer("an UPDATE of SOURCE 3", 1, proposal(join(of(2), leaf(3))));
        answer("a REMOVE of three bytes", 1, proposal(of(3, 0, 0, 1)));
        answer("a REMOVE of one byte", 1, proposal(of(3, 1)));
    }

    private static void commits() {
        int[] byHash = of(1, T + HASH);
        int[] remove = of(2, 3, 0, 1);
        answer("a COMMIT of nothing that can be read", 2, commit(row(of()), NO_PATH));
        answer("a COMMIT of one by HASH", 2, commit(row(byHash), NO_PATH));
        answer("a COMMIT of each sort", 2, commit(row(join(remove, byHash, join(of(2, 1), row(pack())),
                join(of(2, 2), leaf(2)), byHash)), NO_PATH));
        answer("its ROW ends within a HASH's entry", 1, commit(row(1, byHash), NO_PATH));
        answer("its ROW ends within a REMOVE", 1, commit(row(3, remove), NO_PATH));
        answer("its ROW ends within a u16", 1, commit(row(of(2, 3, 0)), NO_PATH));
        answer("its ROW leaves SIGNS over", 1, commit(row(join(byHash, of(1))), NO_PATH));
        answer("its ROW is longer than all that comes", 1, commit(row(65535, byHash), NO_PATH));
        answer("its ROW is longer by one", 1, commit(row(3, byHash), NO_PATH));
        for (int by : new int[] {0, 3, 255}) {
            answer("an entry of another u8: " + by, 1, commit(row(of(by, T + HASH)), NO_PATH));
        }
        answer("by HASH, but a CONTENT", 1, commit(row(of(1, 3, 0, 1)), NO_PATH));
        answer("by CONTENT, but a HASH", 1, commit(row(of(2, T + HASH)), NO_PATH));
        int[] many = new int[256];
        for (int k = 0; k < 256; k += 2) {
            many[k] = 1;
            many[k + 1] = T + HASH;
        }
        answer("a ROW of 256 SIGNS, not how many things", 2, commit(row(many), NO_PATH));
        answer("a ROW that tells how many things", 1, commit(row(128, many), NO_PATH));
        for (int path : new int[] {2, 255}) {
            answer("a u8 of the PATH that is none: " + path, 1, commit(row(of()), of(path)));
        }
        answer("no u8 of the PATH", 1, commit(row(of()), of()));
        answer("two u8 of the PATH", 1, commit(row(of()), of(0, 0)));
        answer("u8 1 without a PATH", 1, commit(row(of()), of(1)));
        answer("u8 0 with a PATH", 1, commit(row(of()), join(of(0), leaf(3), row(of()))));
    }

    private static void paths() {
        int[] none = row(of());
        int[] bare = join(of(T + KEY), row(of()));
        int[] one = join(of(T + KEY), row(of(T + SEALED)));
        int[] two = join(of(T + KEY), row(of(T + SEALED, T + SEALED)));
        answer("a PATH without nodes can be read", 2, commit(none, path(row(of()))));
        answer("a PATH of a node without SEALED can be read", 2, commit(none, path(row(bare))));
        answer("a PATH of four nodes can be read", 2, commit(none, path(row(join(one, bare, two, one)))));
        answer("a PATH of six nodes can be read", 2, commit(none, path(row(join(one, bare, two, one, one, two)))));
        answer("the PATH's ROW is longer by one", 1, commit(none, path(row(one.length + 1, one))));
        answer("the PATH's ROW is shorter by one", 1, commit(none, path(row(one.length - 1, one))));
        answer("the PATH's ROW ends behind a key", 1, commit(none, path(row(join(one, of(T + KEY))))));
        answer("the PATH's ROW ends within a length", 1, commit(none, path(row(join(one, of(T + KEY, 0))))));
        answer("a ROW of SEALED that goes beyond the PATH's ROW", 1,
                commit(none, path(row(join(of(T + KEY), row(2, T + SEALED))))));
        answer("a ROW of SEALED that goes far beyond", 1,
                commit(none, path(row(join(of(T + KEY), row(65535, T + SEALED))))));
        answer("a ROW of SEALED that is too short", 1,
                commit(none, path(row(join(of(T + KEY), row(1, T + SEALED, T + SEALED))))));
        answer("a ROW of SEALED that takes the next key", 1,
                commit(none, path(row(join(of(T + KEY), row(2, T + SEALED), one)))));
        for (int source : new int[] {0, 1, 2, 4}) {
            answer("a PATH of SOURCE " + source, 1, commit(none, join(of(1), leaf(source), row(of()))));
        }
        int[] zero = leaf(3);
        zero[5] = 0;
        answer("a LEAF of SOURCE 3 with the byte 0 for a parent hash", 2, commit(none, join(of(1), zero, row(of()))));
        for (int b : new int[] {1, 255}) {
            int[] other = leaf(3);
            other[5] = b;
            answer("a LEAF of SOURCE 3 with another byte for it: " + b, 1,
                    commit(none, join(of(1), other, row(of()))));
        }
    }

    private static void joiners() {
        int[] tree = row(of(0));
        int[] one = of(T + HASH, T + SEALED);
        answer("a WELCOME for nobody can be read", 13, welcome(row(of()), tree));
        answer("a WELCOME for two can be read", 13, welcome(row(join(one, one)), tree));
        answer("its ROW ends within a pair", 1, welcome(row(1, one), tree));
        answer("its ROW has half a pair more", 1, welcome(row(join(one, of(T + HASH))), tree));
        answer("its ROW has the pair the other way round", 1, welcome(row(of(T + SEALED, T + HASH)), tree));
        answer("its ROW is longer than all that comes", 1, welcome(row(999, one), tree));
        answer("its ROW is longer by one", 1, welcome(row(3, one), tree));
        answer("CONFIRMED is a HASH", 13, join(of(4, 0, 0, 9, 9, 9, 9, T + HASH, T + HASH, 0, 0), tree,
                of(T + MAC, T + SIGNED)));
        answer("CONFIRMED is the byte 1", 1, join(of(4, 0, 0, 9, 9, 9, 9, T + HASH, 1, 0, 0), tree,
                of(T + MAC, T + SIGNED)));
        answer("the tree hash is the byte 0", 1, join(of(4, 0, 0, 9, 9, 9, 9, 0, T + HASH, 0, 0), tree,
                of(T + MAC, T + SIGNED)));
    }

    private static void trees() {
        for (int n = 0; n <= 64; n++) {
            boolean isRight = n == 1 || n == 3 || n == 7 || n == 15 || n == 31;
            answer("nodes of another number than 1, 3, 7, 15 or 31: " + n, isRight ? 13 : 1,
                    welcome(row(of()), row(new int[n])));
        }
        answer("the tree's ROW ends too early", 1, welcome(row(of()), row(1, 0, 0, 0)));
        answer("the tree's ROW ends too late", 1, welcome(row(of()), row(7, 0, 0, 0)));
        answer("the tree's ROW is longer than all that comes", 1, welcome(row(of()), row(65535, 0, 0, 0)));
    }

    private static int[] three(int[] node) {
        return welcome(row(of()), row(join(of(0), node, of(0))));
    }

    private static void treeNodes() {
        int[] none = row(of());
        int[] node = join(of(2, T + KEY, 0), none);
        for (int source = 1; source <= 3; source++) {
            answer("a LEAF of any SOURCE: " + source, 13, welcome(none, row(join(of(1), leaf(source)))));
        }
        for (int source : new int[] {0, 4, 255}) {
            answer("a LEAF of another SOURCE: " + source, 1, welcome(none, row(join(of(1), leaf(source)))));
        }
        answer("u8 1 at a leaf's place alone", 1, three(join(of(1), leaf(1))));
        answer("u8 2 at another place", 13, three(node));
        answer("u8 2 at another place alone: node 0", 1, welcome(none, row(node)));
        answer("u8 2 at another place alone: node 2", 1, welcome(none, row(join(of(0, 0), node))));
        for (int mark : new int[] {3, 255}) {
            answer("a node of another u8: " + mark, 1, three(of(mark)));
            answer("a leaf of another u8: " + mark, 1, welcome(none, row(of(mark, 0, 0))));
        }
        answer("a node with a parent hash", 13, three(join(of(2, T + KEY, T + HASH), none)));
        answer("a node with the byte 1 for a parent hash", 1, three(join(of(2, T + KEY, 1), none)));
        answer("a node without a ROW", 1, three(of(2, T + KEY, 0)));
        int[] full = new int[0];
        for (int n = 0; n < 31; n++) {
            full = join(full, n % 2 == 0 ? join(of(1), leaf(3)) : node);
        }
        answer("thirty-one nodes, none BLANK", 13, welcome(none, row(full)));
        answer("the tree's ROW ends within a LEAF", 1, welcome(none, row(5, join(of(1), leaf(1)))));
        answer("the tree's ROW ends within a node", 1, welcome(none, row(4, join(of(0, 2, T + KEY, 0), none, of(0)))));
    }

    private static int[] unmergedLeaves(int... leaves) {
        int[] signs = new int[2 * leaves.length];
        for (int k = 0; k < leaves.length; k++) {
            signs[2 * k] = leaves[k] >> 8;
            signs[2 * k + 1] = leaves[k] & 255;
        }
        return three(join(of(2, T + KEY, 0), row(signs)));
    }

    private static void unmerged() {
        answer("UNMERGED leaves: none", 13, unmergedLeaves());
        answer("UNMERGED leaves 0 .. 15: leaf 0", 13, unmergedLeaves(0));
        answer("UNMERGED leaves 0 .. 15: leaf 15, there or not", 13, unmergedLeaves(15));
        answer("UNMERGED leaves 0 .. 15: leaf 16", 1, unmergedLeaves(16));
        answer("UNMERGED leaves 0 .. 15: leaf 256", 1, unmergedLeaves(256));
        answer("UNMERGED leaves 0 .. 15: leaf 65535", 1, unmergedLeaves(65535));
        answer("UNMERGED leaves 0 .. 15: leaf 16 behind another", 1, unmergedLeaves(15, 16));
        answer("each above the one before", 13, unmergedLeaves(0, 1));
        answer("each above the one before: sixteen", 13,
                unmergedLeaves(0, 1, 2, 3, 4, 5, 6, 7, 8, 9, 10, 11, 12, 13, 14, 15));
        answer("each above the one before: the same", 1, unmergedLeaves(3, 3));
        answer("each above the one before: leaf 0 twice", 1, unmergedLeaves(0, 0));
        answer("each above the one before: below it", 1, unmergedLeaves(3, 2));
        answer("each above the one before: not the first", 1, unmergedLeaves(2, 5, 3));
        int[] head = of(2, T + KEY, 0);
        answer("a ROW of UNMERGED that ends within a u16", 1, three(join(head, row(of(0)))));
        answer("a ROW of UNMERGED that ends within the second u16", 1, three(join(head, row(of(0, 1, 0)))));
        answer("a ROW of UNMERGED that is longer", 1, three(join(head, row(4, 0, 1))));
        answer("a ROW of UNMERGED that is shorter", 1, three(join(head, row(0, 0, 1))));
        answer("a ROW of UNMERGED that goes beyond the tree's ROW", 1, three(join(head, row(200, 0, 1))));
        answer("a ROW of UNMERGED that tells how many leaves", 1, three(join(head, row(2, 0, 1, 0, 2))));
    }

    private static void anyNumbers() {
        int[] pack = pack();
        pack[2] = 255;
        pack[3] = 255;
        answer("u16 of members may be any: of a PACKAGE", 4, pack);
        answer("u16 of members may be any: of a PACKAGE in an ADD", 2, proposal(join(of(1), row(pack))));
        answer("u16 of leaves may be any: of a REMOVE", 2, proposal(of(3, 255, 255)));
        answer("u16 of leaves may be any: of who commits", 2,
                join(of(3, 0, 0, 0, 0, 255, 255), row(of()), NO_PATH, of(T + SIGNED, T + MAC, T + MAC)));
        answer("u16 of leaves may be any: of a WELCOME", 13,
                join(of(4, 0, 0, 0, 0, 0, 0, T + HASH, 0, 255, 255), row(of(0)), of(T + MAC, T + SIGNED)));
        int[] leaf = leaf(1);
        leaf[0] = 255;
        answer("u16 of members may be any: of a LEAF in a tree", 13, welcome(row(of()), row(join(of(1), leaf))));
        answer("a u32 epoch may be any", 2, join(of(2, 255, 255, 255, 255, 0, 1, 3, 0, 1), of(T + SIGNED, T + MAC)));
        S.edge("u16 of leaves may be any: who proposes, no leaf", x -> {
            Steps.group(x, 2);
            int remove = x.propose(1, 3, 0);
            S.due(x.deliver(Steps.withByte(x, remove, 5, 255), 0), 3);
            S.due(x.deliver(Steps.withByte(x, remove, 6, 2), 0), 3);
            S.due(x.deliver(Steps.withByte(x, remove, 6, 16), 0), 3);
        });
        S.edge("u16 of leaves may be any: who commits, no leaf", x -> {
            Steps.group(x, 2);
            int c = x.commit(1, true);
            S.due(x.deliver(Steps.withByte(x, c, 5, 255), 0), 3);
            S.due(x.deliver(Steps.withByte(x, c, 5, 1), 0), 3);
            S.due(x.deliver(Steps.withByte(x, c, 6, 2), 0), 3);
        });
        S.edge("u16 of leaves may be any: of a WELCOME, no leaf", x -> {
            Steps.group(x, 2);
            x.propose(1, 1, x.offer(5));
            int w = x.commit(1, false) + 1;
            S.due(x.deliver(Steps.withByte(x, w, 11, 255), 5), 4);
            S.due(x.deliver(Steps.withByte(x, w, 12, 3), 5), 4);
            S.due(x.deliver(Steps.withByte(x, w, 12, 4), 5), 4);
        });
    }
}
