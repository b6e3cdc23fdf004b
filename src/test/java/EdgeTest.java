/**
 * Promises 1 to 21: each sentence that names a boundary case, with a test of its own on a new
 * object. In front of each stand the promise's number and the sentence, or the part it is about.
 */
public final class EdgeTest {
    private static final Expect E = new Expect();
    private static final Steps S = new Steps(E);
    private static final int NONE = KeyGroups.NONE;
    private static final int LEAST = Integer.MIN_VALUE;
    private static final int MOST = Integer.MAX_VALUE;
    private static final int[] NO_MEMBERS = {-1, 24, LEAST, MOST};

    public static void main(String[] args) {
        newObject();
        feed();
        end();
        place();
        copy();
        create();
        offer();
        propose();
        proposeState();
        commit();
        commitState();
        deliver();
        post();
        make();
        makeWrong();
        compromise();
        isKnown();
        term();
        ofTerm();
        message();
        sign();
        member();
        node();
        count();
        E.finish();
    }

    private static void newObject() {
        S.edge("1: All are OUT", x -> {
            for (int m = 0; m < 24; m++) {
                S.due(x.member(m, 0), 0);
            }
        });
        S.edge("1: no messages", x -> {
            S.due(x.count(1), 0);
            S.due(x.message(0), NONE);
            S.index(() -> x.deliver(0, 0));
        });
        S.edge("1: the tape is empty", x -> {
            S.due(x.count(3), 0);
            S.due(x.post(), 0);
            S.due(x.message(0), 0);
        });
        S.edge("1: whatever was done with another object", x -> {
            KeyGroups other = new KeyGroups();
            Steps.group(other, 2);
            other.end(5);
            other.feed(-1, -1, -1, -1, -1);
            S.due(x.member(0, 0) + x.member(1, 0), 0);
            S.due(x.count(0), 25);
            S.due(x.count(1) + x.count(3), 0);
            S.due(x.end(1), 1);
            x.post();
            S.due(x.sign(0, 0), 0);
        });
    }

    private static void feed() {
        S.edge("2: those of a first, the highest of each first", x -> {
            x.feed(0x01020304, 0xfffefdfc, LEAST, MOST, 0x00ff00ff);
            x.end(20);
            x.post();
            int[] want = {1, 2, 3, 4, 255, 254, 253, 252, 128, 0, 0, 0, 127, 255, 255, 255, 0, 255, 0, 255};
            for (int k = 0; k < 20; k++) {
                S.due(x.sign(0, k), want[k]);
            }
        });
        S.edge("2: all twenty are put, not those alone that are not 0", x -> {
            x.feed(-1, -1, -1, -1, -1);
            x.feed(0, 0, 0, 0, 1);
            x.end(20);
            x.post();
            for (int k = 0; k < 19; k++) {
                S.due(x.sign(0, k), 0);
            }
            S.due(x.sign(0, 19), 1);
        });
        S.edge("2: They are 0 at first", x -> {
            x.end(20);
            x.post();
            for (int k = 0; k < 20; k++) {
                S.due(x.sign(0, k), 0);
            }
        });
        S.edge("2: and 0 behind each end() that answers a number: end(0)", x -> {
            x.feed(-1, -1, -1, -1, -1);
            S.due(x.end(0), 0);
            x.end(20);
            x.post();
            S.due(x.sign(0, 0) + x.sign(0, 19), 0);
        });
        S.edge("2: and 0 behind each end() that answers a number: those not taken, too", x -> {
            x.feed(-1, -1, -1, -1, -1);
            S.due(x.end(1), 1);
            x.end(20);
            x.post();
            S.due(x.sign(0, 0), 255);
            for (int k = 1; k < 21; k++) {
                S.due(x.sign(0, k), 0);
            }
        });
        S.edge("2: not behind an end() that answers NONE, for n", x -> {
            x.feed(0x11000000, 0, 0, 0, 0x22);
            x.end(21);
            x.end(-1);
            x.end(20);
            x.post();
            S.due(x.sign(0, 0), 0x11);
            S.due(x.sign(0, 19), 0x22);
        });
        S.edge("2: not behind an end() that answers NONE, as the tape is full", x -> {
            Steps.zeroes(x, 1200);
            x.feed(0x11000000, 0, 0, 0, 0);
            S.due(x.end(1), NONE);
            x.post();
            x.end(1);
            x.post();
            S.due(x.sign(1, 0), 0x11);
        });
        S.edge("2: post and make leave the bytes ready", x -> {
            x.feed(0x11000000, 0, 0, 0, 0);
            x.post();
            x.make(1, 0, 0);
            x.end(1);
            x.post();
            S.due(x.sign(1, 0), 0x11);
        });
    }

    private static void end() {
        S.edge("3: The first n of the bytes come, how many SIGNS it has: 0", x -> {
            S.due(x.end(0), 0);
            S.due(x.count(3), 0);
        });
        S.edge("3: The first n of the bytes come, how many SIGNS it has: 20, behind others", x -> {
            S.due(x.end(20), 20);
            S.due(x.end(20), 40);
        });
        S.edge("3: NONE if n is not 0 .. 20: below", x -> {
            S.due(x.end(-1), NONE);
            S.due(x.end(LEAST), NONE);
            S.due(x.count(3), 0);
        });
        S.edge("3: NONE if n is not 0 .. 20: above", x -> {
            S.due(x.end(21), NONE);
            S.due(x.end(MOST), NONE);
            S.due(x.count(3), 0);
        });
        S.edge("3: 1200 are not more than 1200", x -> {
            Steps.zeroes(x, 1180);
            S.due(x.end(20), 1200);
        });
        S.edge("3: NONE, and nothing comes, if it would have more than 1200", x -> {
            Steps.zeroes(x, 1181);
            S.due(x.end(20), NONE);
            S.due(x.count(3), 1181);
            S.due(x.end(19), 1200);
        });
        S.edge("3: a full tape has room for nothing", x -> {
            Steps.zeroes(x, 1200);
            S.due(x.end(1), NONE);
            S.due(x.end(0), 1200);
        });
    }

    private static void place() {
        S.edge("4: A TERM, known", x -> {
            S.due(x.place(1), 1);
            S.due(x.place(25), 2);
            x.post();
            S.due(x.sign(0, 1), 256 + 25);
        });
        S.edge("4: or not", x -> {
            int secret = x.term(2, 1);
            S.due(!x.isKnown(secret));
            S.due(x.place(secret), 1);
            S.due(!x.isKnown(secret));
        });
        S.edge("4: no such number: 0 and below", x -> {
            S.index(() -> x.place(0));
            S.index(() -> x.place(-1));
            S.index(() -> x.place(LEAST));
            S.due(x.count(3), 0);
        });
        S.edge("4: no such number: behind the last", x -> {
            S.index(() -> x.place(26));
            S.index(() -> x.place(MOST));
            S.due(x.make(0, 0, 0), 26);
            S.due(x.place(26), 1);
            S.index(() -> x.place(27));
        });
        S.edge("4: the 1200th comes", x -> {
            Steps.zeroes(x, 1199);
            S.due(x.place(1), 1200);
        });
        S.edge("4: NONE, and nothing comes, if the tape would have more than 1200", x -> {
            Steps.zeroes(x, 1200);
            S.due(x.place(1), NONE);
            S.due(x.count(3), 1200);
        });
        S.edge("4: no such number, also when the tape is full", x -> {
            Steps.zeroes(x, 1200);
            S.index(() -> x.place(26));
        });
    }

    private static void copy() {
        S.edge("5: from k on, n", x -> {
            Steps.bytes(x, 10, 11, 12);
            x.post();
            S.due(x.copy(0, 1, 1), 1);
            x.post();
            S.due(x.sign(1, 0), 11);
        });
        S.edge("5: or as many as there are", x -> {
            Steps.bytes(x, 10, 11, 12);
            x.post();
            S.due(x.copy(0, 1, 3), 2);
            S.due(x.copy(0, 0, MOST), 5);
            S.due(x.copy(0, 2, MOST), 6);
            x.post();
            S.due(x.sign(1, 5), 12);
        });
        S.edge("5: n is 0", x -> {
            x.offer(0);
            S.due(x.copy(0, 0, 0), 0);
            S.due(x.count(3), 0);
        });
        S.edge("5: k is its length", x -> {
            x.offer(0);
            S.due(x.copy(0, 9, 1), 0);
        });
        S.edge("5: NONE if k is above its length", x -> {
            x.offer(0);
            S.due(x.copy(0, 10, 0), NONE);
            S.due(x.copy(0, MOST, MOST), NONE);
        });
        S.edge("5: NONE if k is below 0", x -> {
            x.offer(0);
            S.due(x.copy(0, -1, 5), NONE);
            S.due(x.copy(0, LEAST, 5), NONE);
            S.due(x.count(3), 0);
        });
        S.edge("5: NONE if n is below 0", x -> {
            x.offer(0);
            S.due(x.copy(0, 0, -1), NONE);
            S.due(x.copy(0, 9, LEAST), NONE);
        });
        S.edge("5: NONE if there is none such", x -> {
            S.due(x.copy(0, 0, 0), NONE);
            x.post();
            S.due(x.copy(1, 0, 0), NONE);
            S.due(x.copy(-1, 0, 0), NONE);
            S.due(x.copy(MOST, 0, 0), NONE);
        });
        S.edge("5: of a message that is empty nothing comes", x -> {
            x.post();
            x.end(3);
            S.due(x.copy(0, 0, 9), 3);
            S.due(x.copy(0, 1, 0), NONE);
        });
        S.edge("5: NONE, and nothing comes, if the tape would have more than 1200", x -> {
            x.offer(0);
            Steps.zeroes(x, 1192);
            S.due(x.copy(0, 0, 9), NONE);
            S.due(x.count(3), 1192);
        });
        S.edge("5: what there is counts, not n", x -> {
            x.offer(0);
            Steps.zeroes(x, 1191);
            S.due(x.copy(0, 0, MOST), 1200);
            S.due(x.copy(0, 9, MOST), 1200);
            S.due(x.copy(0, 8, MOST), NONE);
        });
        S.edge("5: 1200 SIGNS of a message at once", x -> {
            Steps.zeroes(x, 1200);
            x.post();
            S.due(x.copy(0, 0, 1200), 1200);
            x.post();
            S.due(x.message(1), 1200);
        });
    }

    private static void create() {
        for (int m : NO_MEMBERS) {
            S.edge("6: no such member " + m, x -> S.index(() -> {
                x.create(m);
                return 0;
            }));
        }
        for (int m : new int[] {0, 23}) {
            S.edge("6: epoch 0, D 0, its LEAF at leaf 0: member " + m, x -> {
                x.create(m);
                S.due(x.member(m, 0), 1);
                S.due(x.member(m, 1) + x.member(m, 2) + x.member(m, 3), 0);
                S.due(x.node(m, 0, 3), m);
                S.due(x.node(m, 0, 5), 1);
                S.due(x.node(m, 1, 0), NONE);
                S.due(x.term(x.term(x.node(m, 0, 0), 1), 0), 0);
            });
        }
        S.edge("6: IllegalStateException: it is IN, as it made a group", x -> {
            x.create(0);
            S.refusedState(x, 0, () -> {
                x.create(0);
                return 0;
            });
        });
        S.edge("6: IllegalStateException: it is IN, as it joined", x -> {
            Steps.group(x, 2);
            S.refusedState(x, 1, () -> {
                x.create(1);
                return 0;
            });
        });
        S.edge("6: a member that is OUT again makes a group", x -> {
            Steps.group(x, 3);
            x.propose(0, 3, 2);
            S.due(Steps.commit(x, 0, false, 2), 0);
            x.create(2);
            S.due(x.member(2, 0), 1);
            S.due(x.member(2, 1) + x.member(2, 2) + x.member(2, 3) + x.member(2, 5), 0);
            S.due(x.member(2, 12), 1);
            S.due(x.node(2, 0, 3), 2);
        });
        S.edge("6: it keeps its PACKAGES", x -> {
            x.offer(0);
            x.offer(0);
            x.create(0);
            S.due(x.member(0, 10), 2);
        });
    }

    private static void offer() {
        for (int m : NO_MEMBERS) {
            S.edge("7: no such member " + m, x -> S.index(() -> x.offer(m)));
        }
        S.edge("7: the message's number, from 0 on", x -> {
            S.due(x.offer(0), 0);
            S.due(x.offer(23), 1);
        });
        S.edge("7: IllegalStateException: it keeps 8 PACKAGES", x -> {
            for (int k = 0; k < 8; k++) {
                S.due(x.offer(5), k);
            }
            S.refusedState(x, 5, () -> x.offer(5));
            S.due(x.offer(6), 8);
        });
        S.edge("7: it keeps 7 when one is used, and may make the 8th", x -> {
            int first = x.offer(1);
            for (int k = 1; k < 8; k++) {
                x.offer(1);
            }
            x.create(0);
            x.propose(0, 1, first);
            int c = x.commit(0, false);
            S.due(x.deliver(c + 1, 1), 0);
            S.due(x.member(1, 10), 7);
            S.due(x.offer(1) >= 0);
            S.state(() -> x.offer(1));
        });
        S.edge("7: the 300th message", x -> {
            Steps.fill(x, 299);
            S.due(x.offer(0), 299);
            S.due(x.deliver(299, 0), 0);
        });
        S.edge("7: IllegalStateException: 300 messages are there", x -> {
            Steps.fill(x, 300);
            S.refusedState(x, 0, () -> x.offer(0));
        });
    }

    private static void propose() {
        for (int m : NO_MEMBERS) {
            S.edge("8: no such member " + m, x -> {
                int pack = x.offer(1);
                S.index(() -> x.propose(m, 1, pack));
                S.index(() -> x.propose(m, 2, 0));
                S.index(() -> x.propose(m, 3, 0));
            });
        }
        for (int kind : new int[] {0, 4, -1, LEAST, MOST}) {
            S.edge("8: no such kind " + kind, x -> {
                x.create(0);
                x.offer(1);
                S.index(() -> x.propose(0, kind, 0));
                S.due(x.member(0, 8), 0);
            });
        }
        for (int of : new int[] {-1, 1, LEAST, MOST}) {
            S.edge("8: no such message " + of, x -> {
                x.create(0);
                x.offer(1);
                S.index(() -> x.propose(0, 1, of));
                S.due(x.count(1), 1);
            });
        }
        for (int leaf : new int[] {-1, 16, LEAST, MOST, 65536}) {
            S.edge("8: no such leaf " + leaf, x -> {
                x.create(0);
                S.index(() -> x.propose(0, 3, leaf));
                S.due(x.count(1), 0);
            });
        }
        for (int leaf : new int[] {0, 15}) {
            S.edge("8: leaf " + leaf + ", there or not", x -> {
                x.create(0);
                S.due(x.propose(0, 3, leaf), 0);
                S.due(x.sign(0, 8) * 256 + x.sign(0, 9), leaf);
                S.due(x.member(0, 8), 1);
            });
        }
        S.edge("8: of an UPDATE the last argument is not asked", x -> {
            x.create(0);
            S.due(x.propose(0, 2, LEAST), 0);
            S.due(x.propose(0, 2, MOST), 1);
            S.due(x.member(0, 9), 2);
        });
        S.edge("8: it keeps the PROPOSAL once, if it is one that it keeps already; the message is another", x -> {
            x.create(0);
            int pack = x.offer(1);
            S.due(x.propose(0, 1, pack), 1);
            S.due(x.propose(0, 1, pack), 2);
            S.due(x.propose(0, 3, 4), 3);
            S.due(x.propose(0, 3, 4), 4);
            S.due(x.member(0, 8), 2);
            for (int k = 0; k < 21; k++) {
                S.due(x.sign(1, k), x.sign(2, k));
            }
        });
        proposeArgument();
    }

    private static void proposeArgument() {
        S.edge("8: that message is no PACKAGE: it is empty", x -> {
            x.create(0);
            x.post();
            S.argument(() -> x.propose(0, 1, 0));
            S.due(x.member(0, 8), 0);
        });
        S.edge("8: that message is no PACKAGE: a PROPOSAL, a COMMIT, a WELCOME", x -> {
            Steps.group(x, 2);
            S.argument(() -> x.propose(0, 1, 1));
            S.argument(() -> x.propose(0, 1, 2));
            S.argument(() -> x.propose(0, 1, 3));
            S.due(x.count(1), 4);
        });
        S.edge("8: that message is no PACKAGE that is right: a signature", x -> {
            x.create(0);
            int pack = x.offer(1);
            int bad = Steps.withByte(x, pack, 3, 2);
            S.argument(() -> x.propose(0, 1, bad));
            S.due(x.propose(0, 1, pack), 2);
        });
        S.edge("8: that message is no PACKAGE that is right: one key twice", x -> {
            x.create(0);
            int pack = x.offer(1);
            x.compromise(1);
            int key = Steps.termAt(x, pack, 4);
            x.copy(pack, 0, 1);
            x.place(key);
            x.copy(pack, 2, 6);
            int signature = x.make(7, x.term(3, 1), 0);
            x.copy(pack, 0, 1);
            x.place(key);
            x.copy(pack, 2, 6);
            x.place(signature);
            int bad = x.post();
            S.due(x.deliver(bad, 0), 4);
            S.argument(() -> x.propose(0, 1, bad));
        });
        S.edge("8: that message is no PACKAGE: a sign left over", x -> {
            x.create(0);
            x.offer(1);
            x.copy(0, 0, 9);
            x.end(1);
            x.post();
            S.argument(() -> x.propose(0, 1, 1));
        });
    }

    private static void proposeState() {
        S.edge("8: IllegalStateException: it is OUT", x -> {
            int pack = x.offer(1);
            S.refusedState(x, 0, () -> x.propose(0, 1, pack));
            S.refusedState(x, 0, () -> x.propose(0, 2, 0));
            S.refusedState(x, 0, () -> x.propose(0, 3, 0));
        });
        S.edge("8: IllegalStateException: it is OUT again", x -> {
            Steps.group(x, 2);
            x.propose(0, 3, 1);
            S.due(Steps.commit(x, 0, false, 1), 0);
            S.refusedState(x, 1, () -> x.propose(1, 2, 0));
        });
        S.edge("8: IllegalStateException: it keeps 20 PROPOSALS that it made", x -> {
            x.create(0);
            for (int k = 0; k < 20; k++) {
                S.due(x.propose(0, 2, 0), k);
            }
            S.due(x.member(0, 8), 20);
            S.refusedState(x, 0, () -> x.propose(0, 2, 0));
        });
        S.edge("8: IllegalStateException: it keeps 20, also for one that it keeps already", x -> {
            x.create(0);
            x.propose(0, 3, 0);
            for (int k = 1; k < 20; k++) {
                x.propose(0, 2, 0);
            }
            S.refusedState(x, 0, () -> x.propose(0, 3, 0));
        });
        S.edge("8: IllegalStateException: it keeps 20 PROPOSALS that it took or made", x -> {
            Steps.group(x, 2);
            for (int k = 0; k < 19; k++) {
                S.due(x.deliver(x.propose(1, 2, 0), 0), 0);
            }
            S.due(x.propose(0, 3, 1) >= 0);
            S.refusedState(x, 0, () -> x.propose(0, 3, 2));
        });
        S.edge("8: 20 are forgotten with the epoch", x -> {
            x.create(0);
            for (int k = 0; k < 20; k++) {
                x.propose(0, 2, 0);
            }
            S.due(Steps.commit(x, 0, false), 0);
            S.due(x.propose(0, 2, 0), 21);
        });
        S.edge("8: the 300th message", x -> {
            x.create(0);
            Steps.fill(x, 299);
            S.due(x.propose(0, 3, 0), 299);
        });
        S.edge("8: IllegalStateException: 300 messages are there", x -> {
            x.create(0);
            x.offer(1);
            Steps.fill(x, 300);
            S.refusedState(x, 0, () -> x.propose(0, 1, 0));
            S.refusedState(x, 0, () -> x.propose(0, 2, 0));
            S.refusedState(x, 0, () -> x.propose(0, 3, 0));
        });
    }

    private static void commit() {
        for (int m : NO_MEMBERS) {
            S.edge("9: no such member " + m, x -> {
                S.index(() -> x.commit(m, true));
                S.index(() -> x.commit(m, false));
            });
        }
        S.edge("9: of no PROPOSALS, with a PATH, as it must be", x -> {
            x.create(0);
            S.due(x.commit(0, false), 0);
            S.due(x.sign(0, 7) + x.sign(0, 8), 0);
            S.due(x.sign(0, 9), 1);
            S.due(x.count(1), 1);
        });
        S.edge("9: leaving out each that would not be right, so there are none, and a PATH must be", x -> {
            Steps.group(x, 2);
            x.propose(0, 3, 0);
            x.propose(0, 3, 2);
            x.propose(0, 3, 15);
            x.propose(0, 1, x.offer(0));
            x.propose(0, 1, x.offer(1));
            int c = x.commit(0, false);
            S.due(x.sign(c, 7) + x.sign(c, 8), 0);
            S.due(x.sign(c, 9), 1);
            S.due(x.count(1), c + 1);
            S.due(x.deliver(c, 1), 0);
        });
        S.edge("9: leaving out an UPDATE of its own, too", x -> {
            x.create(0);
            x.propose(0, 2, 0);
            int c = x.commit(0, false);
            S.due(x.sign(c, 7) + x.sign(c, 8), 0);
            S.due(x.sign(c, 9), 1);
        });
        S.edge("9: that would not be right with those ahead of it: the first ADD of a member stays", x -> {
            x.create(0);
            int one = x.offer(1);
            int two = x.offer(1);
            x.propose(0, 1, two);
            x.propose(0, 1, one);
            int c = x.commit(0, false);
            S.due(x.sign(c, 8), 13);
            S.due(x.sign(c, 13), x.sign(two, 0));
            S.due(x.sign(c, 14), x.sign(two, 1));
        });
        S.edge("9: those ahead of it alone: an ADD ahead of the REMOVE that it needs is left out", x -> {
            Steps.group(x, 2);
            int pack = x.offer(1);
            x.propose(0, 1, pack);
            x.propose(0, 3, 1);
            int c = x.commit(0, false);
            S.due(x.sign(c, 8), 4);
            S.due(x.sign(c, 10), 3);
        });
        S.edge("9: an ADD behind the REMOVE that it needs is not left out", x -> {
            Steps.group(x, 2);
            int pack = x.offer(1);
            x.propose(0, 3, 1);
            x.propose(0, 1, pack);
            int c = x.commit(0, false);
            S.due(x.sign(c, 8), 17);
            S.due(x.count(1), c + 2);
        });
        S.edge("9: what is left out does not stand in the way of those behind it", x -> {
            Steps.group(x, 2);
            x.propose(0, 1, x.offer(1));
            x.propose(0, 1, x.offer(2));
            int c = x.commit(0, false);
            S.due(x.sign(c, 8), 13);
            S.due(x.sign(c, 16), 2);
        });
        commitPaths();
        commitMany();
    }

    private static void commitPaths() {
        S.edge("9: with a PATH if that is wanted", x -> {
            x.create(0);
            x.propose(0, 1, x.offer(1));
            int c = x.commit(0, true);
            S.due(x.sign(c, 22), 1);
        });
        S.edge("9: without one if it is neither wanted nor must be", x -> {
            x.create(0);
            x.propose(0, 1, x.offer(1));
            int c = x.commit(0, false);
            S.due(x.sign(c, 22), 0);
        });
        S.edge("9: its own by CONTENT, others' by HASH", x -> {
            Steps.group(x, 3);
            int remove = x.propose(1, 3, 2);
            S.due(x.deliver(remove, 0), 0);
            x.propose(0, 1, x.offer(5));
            int c = x.commit(0, false);
            S.due(x.sign(c, 8), 2 + 13);
            S.due(x.sign(c, 9), 1);
            int hash = Steps.termAt(x, c, 10);
            S.due(x.term(hash, 4), x.message(remove));
            S.due(x.sign(c, 11), 2);
            S.due(x.sign(c, 12), 1);
            x.deliver(remove, 2);
            S.due(x.deliver(c, 1), 0);
            S.due(x.deliver(c, 2), 0);
            S.due(x.member(2, 0), 0);
        });
        S.edge("9: a WELCOME, if there are ADDs, is the next one", x -> {
            x.create(0);
            x.propose(0, 1, x.offer(1));
            int c = x.commit(0, false);
            S.due(x.count(1), c + 2);
            S.due(x.sign(c + 1, 0), 4);
        });
        S.edge("9: without ADDs there is none", x -> {
            Steps.group(x, 2);
            x.propose(0, 3, 1);
            int c = x.commit(0, false);
            S.due(x.count(1), c + 1);
        });
    }

    private static void commitMany() {
        S.edge("9: the most that one COMMIT can have: fifteen REMOVEs and fifteen ADDs", x -> {
            Steps.grow(x, 16, false);
            for (int leaf = 1; leaf < 16; leaf++) {
                x.propose(0, 3, leaf);
            }
            for (int m = 1; m < 16; m++) {
                int add = x.propose(m > 5 ? 1 : 0, 1, x.offer(m));
                if (m > 5) {
                    S.due(x.deliver(add, 0), 0);
                }
            }
            S.due(x.member(0, 8), 30);
            int c = x.commit(0, false);
            S.due(x.sign(c, 7) * 256 + x.sign(c, 8), 15 * 4 + 5 * 13 + 10 * 2);
            S.due(x.sign(c + 1, 2), 30);
            S.due(x.deliver(c, 0), 0);
            S.due(x.member(0, 3), 4);
            for (int m = 1; m < 16; m++) {
                S.due(x.node(0, 2 * m, 3), m);
            }
        });
        S.edge("9: the sixteenth ADD to a group of one has no leaf", x -> {
            x.create(0);
            for (int m = 1; m < 17; m++) {
                x.propose(0, 1, x.offer(m));
            }
            int c = x.commit(0, false);
            S.due(x.sign(c, 7) * 256 + x.sign(c, 8), 15 * 13);
            S.due(x.deliver(c + 1, 15), 0);
            S.due(x.deliver(c + 1, 16), 13);
        });
    }

    private static void commitState() {
        S.edge("9: It is its PENDING COMMIT; the one before is forgotten: 3 when it comes", x -> {
            Steps.group(x, 2);
            int one = x.commit(0, true);
            int two = x.commit(0, true);
            S.due(x.member(0, 11), 1);
            S.due(x.deliver(one, 0), 3);
            S.due(x.member(0, 11), 1);
            S.due(x.deliver(two, 0), 0);
            S.due(x.member(0, 11), 0);
        });
        S.edge("9: the one before is forgotten, a longer one too: 3 when it comes", x -> {
            Steps.group(x, 2);
            int one = x.commit(0, false);
            x.propose(0, 1, x.offer(2));
            int two = x.commit(0, true);
            S.due(x.message(one) < x.message(two));
            S.due(x.deliver(one, 0), 3);
            S.due(x.deliver(two, 0), 0);
            S.due(x.deliver(one, 0), 2);
        });
        S.edge("9: the one before is forgotten: its secrets are not told", x -> {
            Steps.group(x, 2);
            int one = x.commit(0, true);
            int secret = Steps.secretAt(x, one, 12);
            int two = x.commit(0, true);
            int other = Steps.secretAt(x, two, 12);
            x.compromise(0);
            S.due(!x.isKnown(secret));
            S.due(x.isKnown(other));
        });
        S.edge("9: IllegalStateException: it is OUT", x -> {
            S.refusedState(x, 0, () -> x.commit(0, true));
            S.refusedState(x, 0, () -> x.commit(0, false));
        });
        S.edge("9: the 300th message", x -> {
            x.create(0);
            Steps.fill(x, 299);
            S.due(x.commit(0, true), 299);
            S.due(x.deliver(299, 0), 0);
        });
        S.edge("9: IllegalStateException: 300 messages are there", x -> {
            x.create(0);
            Steps.fill(x, 300);
            S.refusedState(x, 0, () -> x.commit(0, true));
        });
        S.edge("9: the 299th and, for the WELCOME, the 300th message", x -> {
            x.create(0);
            int pack = x.offer(1);
            x.propose(0, 1, pack);
            Steps.fill(x, 298);
            S.due(x.commit(0, false), 298);
            S.due(x.count(1), 300);
            S.due(x.deliver(299, 1), 0);
        });
        S.edge("9: IllegalStateException: 299 messages, if a WELCOME is to be; nothing is made", x -> {
            x.create(0);
            x.propose(0, 1, x.offer(1));
            Steps.fill(x, 299);
            S.refusedState(x, 0, () -> x.commit(0, true));
            S.due(x.count(1), 299);
        });
        S.edge("9: Nothing is made when this throws: the COMMIT that is pending stays so", x -> {
            x.create(0);
            int pack = x.offer(1);
            int c = x.commit(0, true);
            x.propose(0, 1, pack);
            Steps.fill(x, 299);
            S.refusedState(x, 0, () -> x.commit(0, true));
            S.due(x.deliver(c, 0), 0);
            S.due(x.member(0, 1), 1);
        });
        S.edge("9: 299 messages, and an ADD that is left out: no WELCOME is to be", x -> {
            x.create(0);
            x.propose(0, 1, x.offer(0));
            Steps.fill(x, 299);
            S.due(x.commit(0, false), 299);
        });
    }

    private static void deliver() {
        for (int message : new int[] {-1, 1, LEAST, MOST}) {
            S.edge("10: no such message " + message, x -> {
                x.offer(0);
                S.index(() -> x.deliver(message, 0));
            });
        }
        for (int m : NO_MEMBERS) {
            S.edge("10: no such member " + m, x -> {
                x.offer(0);
                S.index(() -> x.deliver(0, m));
            });
        }
        S.edge("10: the first message and the last, of 300", x -> {
            x.offer(0);
            Steps.fill(x, 299);
            x.offer(1);
            S.due(x.deliver(0, 23), 0);
            S.due(x.deliver(299, 0), 0);
            S.due(x.deliver(1, 0), 1);
            S.index(() -> x.deliver(300, 0));
        });
    }

    private static void post() {
        S.edge("11: the tape, which is empty then", x -> {
            x.end(7);
            S.due(x.post(), 0);
            S.due(x.count(3), 0);
            S.due(x.message(0), 7);
        });
        S.edge("11: an empty tape is an empty message", x -> {
            S.due(x.post(), 0);
            S.due(x.post(), 1);
            S.due(x.message(0) + x.message(1), 0);
        });
        S.edge("11: a full tape", x -> {
            Steps.zeroes(x, 1199);
            x.place(25);
            S.due(x.post(), 0);
            S.due(x.message(0), 1200);
            S.due(x.sign(0, 1199), 256 + 25);
            S.due(x.sign(0, 1200), NONE);
        });
        S.edge("11: the 300th", x -> {
            Steps.fill(x, 299);
            S.due(x.post(), 299);
            S.due(x.count(1), 300);
        });
        S.edge("11: IllegalStateException: 300 are there (the tape stays)", x -> {
            Steps.fill(x, 300);
            x.end(5);
            S.state(() -> x.post());
            S.due(x.count(3), 5);
            S.due(x.count(1), 300);
            S.due(x.end(1), 6);
        });
        S.edge("11: the message does not change with the tape", x -> {
            Steps.bytes(x, 9);
            x.post();
            Steps.bytes(x, 8);
            S.due(x.sign(0, 0), 9);
        });
    }

    private static void make() {
        S.edge("12: NAME: a and b are not asked", x -> {
            S.due(x.make(0, LEAST, MOST), 26);
            S.due(x.make(0, 0, 0), 27);
        });
        S.edge("12: HASH: a and b are not asked", x -> S.due(x.make(1, LEAST, MOST), 26));
        S.edge("12: b is asked of MIXED and SEALED alone, and the LABEL", x -> {
            S.due(x.make(2, 1, 999) > 0);
            S.due(x.make(5, 1, 999) > 0);
            S.due(x.make(7, 1, -9) > 0);
        });
        for (int sort : new int[] {1, 2, 3, 7}) {
            S.edge("12: the tape is empty then, if it is in it: " + sort, x -> {
                x.end(3);
                int made = x.make(sort, 1, 0);
                S.due(x.count(3), 0);
                S.due(x.term(made, 4), 3);
            });
            S.edge("12: the tape may be empty: " + sort, x -> S.due(x.term(x.make(sort, 1, 0), 4), 0));
            S.edge("12: the tape has 300 SIGNS: " + sort, x -> {
                Steps.zeroes(x, 299);
                x.place(25);
                int made = x.make(sort, 1, 0);
                S.due(x.term(made, 4), 300);
                S.due(x.ofTerm(made, 299), 256 + 25);
                S.due(x.count(3), 0);
            });
            S.edge("12: IllegalArgumentException: the tape has more than 300 SIGNS (it stays): " + sort, x -> {
                Steps.zeroes(x, 301);
                S.argument(() -> x.make(sort, 1, 0));
                S.due(x.count(3), 301);
                S.due(x.count(0), 25);
            });
        }
        for (int sort : new int[] {0, 4, 5, 6}) {
            S.edge("12: the tape stays, if it is not in it, however long it is: " + sort, x -> {
                Steps.zeroes(x, 301);
                int made = x.make(sort, 2, 1);
                S.due(x.term(made, 0), sort);
                S.due(x.count(3), 301);
            });
        }
        S.edge("12: a term that is there gets no other number", x -> {
            S.due(x.make(5, x.make(0, 0, 0), 0), 27);
            S.due(x.make(5, 26, 0), 27);
            S.due(x.count(0), 27);
        });
        for (int label : new int[] {0, 9}) {
            S.edge("12: LABEL " + label, x -> S.due(x.term(x.make(3, 1, label), 2), label));
        }
    }

    private static void makeWrong() {
        for (int sort : new int[] {-1, 8, LEAST, MOST}) {
            S.edge("12: no such sort " + sort, x -> {
                x.end(1);
                S.index(() -> x.make(sort, 2, 2));
                S.due(x.count(3), 1);
            });
        }
        for (int sort = 2; sort <= 7; sort++) {
            int s = sort;
            S.edge("12: a term a that there is not: " + s, x -> {
                x.end(1);
                S.index(() -> x.make(s, 0, 1));
                S.index(() -> x.make(s, -1, 1));
                S.index(() -> x.make(s, 26, 1));
                S.index(() -> x.make(s, MOST, 1));
                S.due(x.count(3), 1);
                S.due(x.count(0), 25);
            });
            S.edge("12: a term a that it does not know: " + s, x -> {
                int secret = x.term(2, 1);
                S.index(() -> x.make(s, secret, 1));
                x.compromise(0);
                if (s == 6) {
                    S.argument(() -> x.make(s, secret, 1));
                } else {
                    S.due(x.make(s, secret, 1) > 0);
                }
            });
        }
        for (int sort : new int[] {4, 6}) {
            S.edge("12: a term b that there is not, or it does not know: " + sort, x -> {
                S.index(() -> x.make(sort, 2, 0));
                S.index(() -> x.make(sort, 2, 26));
                int secret = x.term(2, 1);
                S.index(() -> x.make(sort, 2, secret));
                x.compromise(0);
                S.due(x.make(sort, 2, secret) > 0);
            });
        }
        for (int label : new int[] {-1, 10, LEAST, MOST}) {
            S.edge("12: a LABEL that is none: " + label, x -> {
                x.end(1);
                S.index(() -> x.make(3, 1, label));
                S.due(x.count(3), 1);
            });
        }
        S.edge("12: IllegalArgumentException: 6, and a is no PUBLIC", x -> {
            int name = x.make(0, 0, 0);
            int hash = x.make(1, 0, 0);
            S.argument(() -> x.make(6, 1, 1));
            S.argument(() -> x.make(6, name, 1));
            S.argument(() -> x.make(6, hash, 1));
            S.due(x.count(0), 27);
        });
    }

    private static void compromise() {
        for (int m : NO_MEMBERS) {
            S.edge("13: no such member " + m, x -> S.index(() -> x.compromise(m)));
        }
        for (int m : new int[] {0, 23}) {
            S.edge("13: a member that is OUT: " + m, x -> {
                int secret = x.term(2 + m, 1);
                S.due(x.compromise(m), 26);
                S.due(x.isKnown(secret));
                S.due(x.compromise(m), 26);
            });
        }
        S.edge("13: of the TERMS that have a number", x -> {
            x.offer(0);
            S.due(x.compromise(0), 25);
            x.sign(0, 1);
            S.due(x.compromise(0), 26);
        });
        S.edge("13: what it keeps now; not what it keeps later", x -> {
            x.compromise(0);
            int pack = x.offer(0);
            int secret = Steps.secretAt(x, pack, 1);
            S.due(!x.isKnown(secret));
            x.compromise(0);
            S.due(x.isKnown(secret));
        });
        S.edge("13: not what it kept before: a PACKAGE that is used", x -> {
            int pack = x.offer(1);
            int init = Steps.secretAt(x, pack, 1);
            int leaf = Steps.secretAt(x, pack, 4);
            x.create(0);
            x.propose(0, 1, pack);
            int c = x.commit(0, false);
            S.due(x.deliver(c + 1, 1), 0);
            x.compromise(1);
            S.due(!x.isKnown(init));
            S.due(x.isKnown(leaf));
        });
        S.edge("13: who is OUT keeps its PACKAGES alone", x -> {
            Steps.group(x, 2);
            int leaf = x.term(x.node(1, 2, 0), 1);
            int epoch = x.member(1, 7);
            int node = x.term(x.node(1, 1, 0), 1);
            int update = Steps.secretAt(x, x.propose(1, 2, 0), 10);
            int pending = Steps.secretAt(x, x.commit(1, true), 12);
            int pack = x.offer(1);
            int init = Steps.secretAt(x, pack, 1);
            x.propose(0, 3, 1);
            S.due(x.deliver(x.commit(0, false), 1), 0);
            S.due(x.member(1, 0), 0);
            x.compromise(1);
            S.due(!x.isKnown(leaf) && !x.isKnown(epoch) && !x.isKnown(node));
            S.due(!x.isKnown(update) && !x.isKnown(pending));
            S.due(x.isKnown(init));
        });
    }

    private static void isKnown() {
        for (int term : new int[] {0, -1, 26, LEAST, MOST}) {
            S.edge("14: false if there is none such: " + term, x -> S.due(!x.isKnown(term)));
        }
        S.edge("14: a TERM that gets a number later", x -> {
            S.due(!x.isKnown(26));
            x.make(0, 0, 0);
            S.due(x.isKnown(26));
            S.due(!x.isKnown(27));
        });
        S.edge("14: a TERM with a number that it does not know", x -> S.due(!x.isKnown(x.term(2, 1))));
    }

    private static void term() {
        for (int term : new int[] {0, -1, 26, LEAST, MOST}) {
            S.edge("15: NONE if there is none such: " + term, x -> {
                for (int what = 0; what <= 4; what++) {
                    S.due(x.term(term, what), NONE);
                }
            });
        }
        for (int what : new int[] {-1, 5, LEAST, MOST}) {
            S.edge("15: NONE for another what: " + what, x -> S.due(x.term(2, what), NONE));
        }
        S.edge("15: 0 NAME (and ZERO), of nothing", x -> {
            int name = x.make(0, 0, 0);
            for (int what = 0; what <= 4; what++) {
                S.due(x.term(1, what), 0);
                S.due(x.term(name, what), 0);
            }
        });
        S.edge("15: 1 HASH, of SIGNS alone", x -> {
            x.end(2);
            terms(x, x.make(1, 0, 0), 1, 0, 0, 0, 2);
        });
        S.edge("15: 2 MAC, of a term and SIGNS", x -> {
            x.end(2);
            terms(x, x.make(2, 5, 0), 2, 5, 0, 0, 2);
        });
        S.edge("15: 3 DERIVED, of a term, the LABEL and SIGNS", x -> {
            x.end(2);
            terms(x, x.make(3, 5, 9), 3, 5, 9, 0, 2);
        });
        S.edge("15: 3 DERIVED, LABEL 0", x -> terms(x, x.make(3, 5, 0), 3, 5, 0, 0, 0));
        S.edge("15: 4 MIXED, of two terms", x -> terms(x, x.make(4, 5, 6), 4, 5, 6, 0, 0));
        S.edge("15: 5 PUBLIC, of a term", x -> terms(x, x.make(5, 5, 0), 5, 5, 0, 0, 0));
        S.edge("15: 6 SEALED, of the PUBLIC, one in it", x -> terms(x, x.make(6, 5, 6), 6, 5, 6, 0, 0));
        S.edge("15: 6 SEALED, of the PUBLIC, two in it", x -> {
            x.create(0);
            int pack = x.offer(1);
            x.propose(0, 1, pack);
            int c = x.commit(0, true);
            int sealed = Steps.termAt(x, c + 1, 4);
            int init = Steps.termAt(x, pack, 1);
            terms(x, sealed, 6, init, x.term(sealed, 2), x.term(sealed, 3), 0);
            S.due(x.term(x.term(sealed, 2), 0), 4);
            S.due(x.term(x.term(sealed, 3), 0), 0);
            S.due(x.term(sealed, 3) > 0);
        });
        S.edge("15: 7 SIGNED, of a term and SIGNS", x -> {
            x.end(2);
            terms(x, x.make(7, 5, 0), 7, 5, 0, 0, 2);
        });
    }

    private static void terms(KeyGroups x, int term, int... want) {
        for (int what = 0; what < want.length; what++) {
            S.due(x.term(term, what), want[what]);
        }
    }

    private static void ofTerm() {
        S.edge("16: a byte, or 256 and a TERM's number", x -> {
            Steps.bytes(x, 0, 255);
            x.place(1);
            x.place(25);
            int hash = x.make(1, 0, 0);
            S.due(x.ofTerm(hash, 0), 0);
            S.due(x.ofTerm(hash, 1), 255);
            S.due(x.ofTerm(hash, 2), 257);
            S.due(x.ofTerm(hash, 3), 256 + 25);
        });
        S.edge("16: NONE if there is none such: k", x -> {
            x.end(2);
            int hash = x.make(1, 0, 0);
            S.due(x.ofTerm(hash, 2), NONE);
            S.due(x.ofTerm(hash, -1), NONE);
            S.due(x.ofTerm(hash, LEAST), NONE);
            S.due(x.ofTerm(hash, MOST), NONE);
        });
        S.edge("16: NONE if there is none such: of no SIGNS", x -> {
            S.due(x.ofTerm(1, 0), NONE);
            S.due(x.ofTerm(2, 0), NONE);
            S.due(x.ofTerm(x.make(1, 0, 0), 0), NONE);
        });
        for (int term : new int[] {0, -1, 26, LEAST, MOST}) {
            S.edge("16: NONE if there is none such: term " + term, x -> S.due(x.ofTerm(term, 0), NONE));
        }
    }

    private static void message() {
        S.edge("17: how many SIGNS it has: 0 and 1200", x -> {
            x.post();
            Steps.zeroes(x, 1200);
            x.post();
            S.due(x.message(0), 0);
            S.due(x.message(1), 1200);
        });
        for (int message : new int[] {-1, 1, LEAST, MOST}) {
            S.edge("17: NONE if there is none such: " + message, x -> {
                x.post();
                S.due(x.message(message), NONE);
            });
        }
        S.edge("17: the 300th is there, no other", x -> {
            Steps.fill(x, 300);
            S.due(x.message(299), 0);
            S.due(x.message(300), NONE);
        });
    }

    private static void sign() {
        S.edge("18: a byte, or 256 and a TERM's number", x -> {
            Steps.bytes(x, 0, 255);
            x.place(1);
            x.post();
            S.due(x.sign(0, 0), 0);
            S.due(x.sign(0, 1), 255);
            S.due(x.sign(0, 2), 257);
        });
        S.edge("18: NONE if there is none such: k", x -> {
            x.offer(0);
            S.due(x.sign(0, 8) > 256);
            S.due(x.sign(0, 9), NONE);
            S.due(x.sign(0, -1), NONE);
            S.due(x.sign(0, LEAST), NONE);
            S.due(x.sign(0, MOST), NONE);
        });
        S.edge("18: NONE if there is none such: an empty message", x -> {
            x.post();
            S.due(x.sign(0, 0), NONE);
        });
        for (int message : new int[] {-1, 1, LEAST, MOST}) {
            S.edge("18: NONE if there is none such: message " + message, x -> {
                x.offer(0);
                S.due(x.sign(message, 0), NONE);
            });
        }
    }

    private static void member() {
        for (int m : NO_MEMBERS) {
            S.edge("19: NONE for another member: " + m, x -> {
                for (int what = 0; what <= 12; what++) {
                    S.due(x.member(m, what), NONE);
                }
            });
        }
        for (int what : new int[] {-1, 13, LEAST, MOST}) {
            S.edge("19: NONE for another what: " + what, x -> {
                x.create(0);
                S.due(x.member(0, what), NONE);
                S.due(x.member(1, what), NONE);
            });
        }
        for (int what = 1; what <= 7; what++) {
            int w = what;
            S.edge("19: NONE for 1 to 7 if it is OUT: " + w, x -> {
                S.due(x.member(23, w), NONE);
                S.due(x.count(0), 25);
            });
        }
        S.edge("19: 0 if it is OUT: 0, 8, 9, 11, 12", x -> {
            for (int what : new int[] {0, 8, 9, 11, 12}) {
                S.due(x.member(0, what), 0);
            }
        });
        S.edge("19: 0 if it is OUT again: 0, 8, 9, 11, 12; NONE for 1 to 7", x -> {
            Steps.group(x, 2);
            x.propose(1, 2, 0);
            x.propose(1, 3, 0);
            x.commit(1, true);
            x.propose(0, 3, 1);
            S.due(x.member(1, 8) + x.member(1, 9) + x.member(1, 11), 4);
            S.due(x.deliver(x.commit(0, false), 1), 0);
            for (int what : new int[] {0, 8, 9, 11, 12}) {
                S.due(x.member(1, what), 0);
            }
            for (int what = 1; what <= 7; what++) {
                S.due(x.member(1, what), NONE);
            }
        });
        S.edge("19: how many PACKAGES it keeps, also if it is OUT: 8", x -> {
            for (int k = 0; k <= 8; k++) {
                S.due(x.member(2, 10), k);
                if (k < 8) {
                    x.offer(2);
                }
            }
        });
        S.edge("19: CONFIRMED, 0 without", x -> {
            x.create(0);
            S.due(x.member(0, 5), 0);
            S.due(x.count(0), 25);
            Steps.commit(x, 0, true);
            S.due(x.member(0, 5), 26);
        });
        S.edge("19: of how many nodes, its leaf too, it has the secret: 1 and 5", x -> {
            Steps.group(x, 16);
            S.due(x.member(0, 12), 5);
            S.due(x.member(1, 12), 5);
            S.due(x.member(2, 12), 4);
            S.due(x.member(4, 12), 3);
            S.due(x.member(8, 12), 2);
            KeyGroups y = new KeyGroups();
            y.create(0);
            S.due(y.member(0, 12), 1);
        });
    }

    private static void node() {
        S.edge("20: NONE if it is OUT", x -> {
            for (int what = 0; what <= 5; what++) {
                S.due(x.node(0, 0, what), NONE);
            }
        });
        for (int m : NO_MEMBERS) {
            S.edge("20: NONE if there is none such: member " + m, x -> S.due(x.node(m, 0, 0), NONE));
        }
        for (int n : new int[] {-1, 1, LEAST, MOST}) {
            S.edge("20: NONE if there is none such: node " + n + ", D 0", x -> {
                x.create(0);
                for (int what = 0; what <= 5; what++) {
                    S.due(x.node(0, n, what), NONE);
                }
            });
        }
        S.edge("20: NONE if there is none such: node 31, D 4", x -> {
            Steps.group(x, 16);
            S.due(x.node(0, 30, 3), 15);
            for (int what = 0; what <= 5; what++) {
                S.due(x.node(0, 31, what), NONE);
                S.due(x.node(0, 32, what), NONE);
            }
        });
        for (int what : new int[] {-1, 6, LEAST, MOST}) {
            S.edge("20: NONE for another what: " + what, x -> {
                x.create(0);
                S.due(x.node(0, 0, what), NONE);
            });
        }
        S.edge("20: of a BLANK leaf", x -> {
            Steps.grow(x, 3, false);
            int[] want = {0, 0, 0, NONE, 0, 0};
            for (int what = 0; what <= 5; what++) {
                S.due(x.node(0, 6, what), want[what]);
            }
        });
        S.edge("20: of another BLANK node", x -> {
            Steps.grow(x, 3, false);
            int[] want = {0, 0, 0, NONE, 3, 0};
            for (int what = 0; what <= 5; what++) {
                S.due(x.node(0, 3, what), want[what]);
            }
        });
        S.edge("20: of a leaf and a node that became BLANK, and had all", x -> {
            Steps.group(x, 4);
            S.due(Steps.commit(x, 2, true, 0, 1, 3), 0);
            S.due(x.node(0, 4, 1) > 0 && x.node(0, 5, 1) > 0);
            x.propose(0, 3, 2);
            S.due(Steps.commit(x, 0, false, 1, 3), 0);
            int[] leaf = {0, 0, 0, NONE, 0, 0};
            int[] node = {0, 0, 0, NONE, 1, 0};
            for (int what = 0; what <= 5; what++) {
                S.due(x.node(3, 4, what), leaf[what]);
                S.due(x.node(3, 5, what), node[what]);
            }
        });
        S.edge("20: parent hash, 0 without: a LEAF of SOURCE 1, a LEAF of SOURCE 3, a top", x -> {
            Steps.group(x, 2);
            S.due(x.node(0, 2, 1), 0);
            S.due(x.term(x.node(0, 0, 1), 0), 1);
            S.due(x.node(0, 1, 1), 0);
        });
        S.edge("20: the member of a LEAF, NONE of another node", x -> {
            Steps.group(x, 2);
            S.due(x.node(0, 2, 3), 1);
            S.due(x.node(0, 1, 3), NONE);
        });
    }

    private static void count() {
        for (int what : new int[] {-1, 4, LEAST, MOST}) {
            S.edge("21: NONE for another what: " + what, x -> S.due(x.count(what), NONE));
        }
        S.edge("21: TERMS that have a number: more than there were at first", x -> {
            for (int k = 26; k <= 300; k++) {
                S.due(x.make(0, 0, 0), k);
            }
            S.due(x.count(0), 300);
            S.due(x.count(2), 300);
            S.due(x.isKnown(300));
        });
        S.edge("21: messages: 0 and 300", x -> {
            S.due(x.count(1), 0);
            Steps.fill(x, 300);
            S.due(x.count(1), 300);
        });
        S.edge("21: those of these TERMS that the INTRUDER knows", x -> {
            x.create(0);
            x.member(0, 7);
            S.due(x.count(0), 26);
            S.due(x.count(2), 25);
            x.compromise(0);
            S.due(x.count(2), 26);
        });
        S.edge("21: SIGNS on the tape: 0 and 1200", x -> {
            S.due(x.count(3), 0);
            Steps.zeroes(x, 1200);
            S.due(x.count(3), 1200);
        });
    }
}
