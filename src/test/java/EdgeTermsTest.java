/**
 * What the document says under 'Terms': each sentence that names a boundary case of terms, trees,
 * proposals, paths and of what is kept and known, with a test of its own on a new object.
 */
public final class EdgeTermsTest {
    private static final Expect E = new Expect();
    private static final Steps S = new Steps(E);
    private static final int NONE = KeyGroups.NONE;

    public static void main(String[] args) {
        sameTerms();
        numbers();
        numbersNotTold();
        known();
        sealedKnown();
        resolutions();
        treeHashes();
        shrinking();
        growing();
        unmerged();
        pathsThatCount();
        pathsWithoutNodes();
        keys();
        keeping();
        packagesKept();
        removed();
        ownCommits();
        E.finish();
    }

    private static int t(int number) {
        return 256 + number;
    }

    private static void signs(KeyGroups x, int term, int... want) {
        S.due(x.term(term, 4), want.length);
        for (int k = 0; k < want.length; k++) {
            S.due(x.ofTerm(term, k), want[k]);
        }
    }

    // ---- terms and their numbers

    private static void sameTerms() {
        for (int sort = 1; sort <= 7; sort++) {
            int s = sort;
            S.edge("the same one of the same: sort " + s, x -> {
                Steps.bytes(x, 1, 2);
                int one = x.make(s, 2, 3);
                Steps.bytes(x, 1, 2);
                S.due(x.make(s, 2, 3), one);
                S.due(x.count(0), 26);
            });
        }
        S.edge("NAME: each another one", x -> S.due(x.make(0, 0, 0) != x.make(0, 0, 0)));
        for (int sort : new int[] {1, 2, 3, 7}) {
            S.edge("of other SIGNS it is another one: sort " + sort, x -> {
                int none = x.make(sort, 2, 0);
                Steps.bytes(x, 0);
                int zero = x.make(sort, 2, 0);
                Steps.bytes(x, 0, 0);
                int two = x.make(sort, 2, 0);
                x.place(1);
                int term = x.make(sort, 2, 0);
                Steps.bytes(x, 1);
                int one = x.make(sort, 2, 0);
                S.due(none + 1 == zero && zero + 1 == two && two + 1 == term && term + 1 == one);
            });
        }
        S.edge("of other SIGNS it is another one: all rows of two bytes that are near", x -> {
            for (int k = 0; k < 3; k++) {
                for (int low : new int[] {0, 31, 62, 93}) {
                    Steps.bytes(x, k, low);
                    S.due(x.make(1, 0, 0), x.count(0));
                }
            }
            S.due(x.count(0), 25 + 12);
        });
        S.edge("of other terms it is another one: all pairs of nine names, near and far apart", x -> {
            for (int k = 0; k < 65; k++) {
                x.make(0, 0, 0);
            }
            int[] names = {26, 27, 28, 57, 58, 59, 88, 89, 90};
            int made = x.count(0);
            for (int a : names) {
                for (int b : names) {
                    made++;
                    S.due(x.make(4, a, b), made);
                }
            }
        });
        S.edge("DERIVED of another LABEL is another one", x -> {
            for (int label = 0; label <= 9; label++) {
                S.due(x.make(3, 1, label), 26 + label);
            }
        });
        S.edge("MIXED and SEALED of the same two are two", x -> S.due(x.make(4, 2, 3) != x.make(6, 2, 3)));
        S.edge("SEALED of one term, and of two with it, are two", x -> {
            x.create(0);
            int pack = x.offer(1);
            x.propose(0, 1, pack);
            int one = Steps.termAt(x, x.commit(0, false) + 1, 4);
            int two = Steps.termAt(x, x.commit(0, true) + 1, 4);
            S.due(one != two);
            S.due(x.term(one, 1), x.term(two, 1));
            S.due(x.term(one, 3), 0);
            S.due(x.term(two, 3) > 0);
        });
    }

    private static void numbers() {
        S.edge("from 1 on; ZERO is 1, then the members' signature keys", x -> {
            S.due(x.count(0), 25);
            S.due(x.term(0, 0), NONE);
            S.due(x.term(1, 0), 0);
            for (int m = 0; m < 24; m++) {
                S.due(x.term(2 + m, 0), 5);
            }
            S.due(x.term(26, 0), NONE);
        });
        S.edge("first told by make; it counts at once", x -> {
            S.due(x.make(0, 0, 0), 26);
            S.due(x.count(0), 26);
        });
        S.edge("first told by term 1", x -> {
            S.due(x.term(25, 1), 26);
            S.due(x.count(0), 26);
            S.due(x.term(25, 1), 26);
            S.due(x.term(24, 1), 27);
        });
        S.edge("first told by term 2 and 3", x -> {
            x.create(0);
            x.propose(0, 1, x.offer(1));
            x.commit(0, true);
            S.due(x.sign(3, 4), t(26));
            S.due(x.term(26, 3), 27);
            S.due(x.term(26, 2), 28);
            S.due(x.term(26, 1), 29);
            S.due(x.count(0), 29);
        });
        S.edge("first told by ofTerm", x -> {
            x.create(0);
            S.due(x.member(0, 4), 26);
            S.due(x.ofTerm(26, 6), t(27));
            S.due(x.ofTerm(26, 7), t(2));
            S.due(x.count(0), 27);
        });
        S.edge("first told by sign", x -> {
            x.offer(0);
            S.due(x.sign(0, 8), t(26));
            S.due(x.sign(0, 1), t(27));
            S.due(x.sign(0, 8), t(26));
            S.due(x.count(0), 27);
        });
        for (int what = 4; what <= 7; what++) {
            int w = what;
            S.edge("first told by member " + w, x -> {
                x.create(0);
                Steps.commit(x, 0, true);
                S.due(x.member(0, w), 26);
                S.due(x.count(0), 26);
                S.due(x.member(0, w), 26);
            });
        }
        for (int what = 0; what <= 1; what++) {
            int w = what;
            S.edge("first told by node " + w, x -> {
                Steps.group(x, 2);
                S.due(x.node(0, 0, w), 26);
                S.due(x.node(1, 0, w), 26);
                S.due(x.count(0), 26);
            });
        }
    }

    private static void numbersNotTold() {
        S.edge("no other answer tells a number", x -> {
            Steps.group(x, 3);
            int pack = x.offer(5);
            x.propose(0, 1, pack);
            x.propose(1, 2, 0);
            x.commit(0, true);
            x.copy(0, 0, 9);
            x.post();
            x.deliver(0, 1);
            x.compromise(2);
            for (int what : new int[] {0, 1, 2, 3, 8, 9, 10, 11, 12}) {
                x.member(0, what);
            }
            for (int what = 2; what <= 5; what++) {
                x.node(0, 3, what);
            }
            x.term(2, 0);
            x.term(2, 4);
            x.sign(0, 0);
            x.message(0);
            S.due(x.count(0), 25);
        });
        S.edge("0 is no number: a BLANK node, no parent hash, no CONFIRMED, nothing that a term is of", x -> {
            Steps.grow(x, 3, false);
            x.node(0, 6, 0);
            x.node(0, 4, 1);
            x.create(9);
            x.member(9, 5);
            x.term(2, 2);
            x.term(2, 3);
            x.term(1, 1);
            S.due(x.count(0), 25);
        });
    }

    // ---- what the intruder knows

    private static void known() {
        S.edge("knows ZERO", x -> S.due(x.isKnown(1)));
        S.edge("knows all terms in messages that members made, the last one too", x -> {
            x.create(0);
            x.propose(0, 1, x.offer(1));
            x.commit(0, true);
            for (int message = 0; message < 4; message++) {
                for (int k = 0; k < x.message(message); k++) {
                    int sign = x.sign(message, k);
                    S.due(sign < 256 || x.isKnown(sign - 256));
                }
            }
        });
        S.edge("not those in messages that it made itself", x -> {
            int secret = x.term(2, 1);
            x.place(secret);
            x.post();
            S.due(!x.isKnown(secret));
        });
        S.edge("knows all HASHes, of whatever SIGNS, but not what is in them", x -> {
            int secret = x.term(2, 1);
            x.place(secret);
            int hash = x.make(1, 0, 0);
            S.due(x.isKnown(hash));
            S.due(!x.isKnown(secret));
            x.create(3);
            S.due(x.isKnown(x.member(3, 4)));
            S.due(x.isKnown(x.member(3, 6)));
            S.due(!x.isKnown(x.ofTerm(x.member(3, 6), 1) - 256));
        });
        for (int sort : new int[] {2, 3, 7}) {
            S.edge("whatever SIGNS are in them: sort " + sort, x -> {
                int secret = x.term(2, 1);
                x.place(secret);
                S.due(x.isKnown(x.make(sort, 1, 0)));
                S.due(!x.isKnown(secret));
            });
        }
        S.edge("PUBLIC, MAC, DERIVED, SIGNED of what it comes to know", x -> {
            x.create(0);
            int epochSecret = x.member(0, 7);
            int key = x.node(0, 0, 0);
            int confirmation = x.ofTerm(x.member(0, 6), 1) - 256;
            int confirmationKey = x.term(confirmation, 1);
            int signature = x.ofTerm(x.member(0, 4), 9) - 256;
            int[] all = {epochSecret, key, confirmation, confirmationKey, signature};
            for (int one : all) {
                S.due(!x.isKnown(one));
            }
            x.compromise(0);
            for (int one : all) {
                S.due(x.isKnown(one));
            }
            S.due(!x.isKnown(x.term(epochSecret, 1)));
        });
        S.edge("MIXED if it knows both", x -> {
            Steps.group(x, 2);
            int pending = x.commit(0, true);
            S.due(x.deliver(pending, 1), 0);
            int joiner = x.term(x.member(1, 7), 1);
            int init = x.term(joiner, 1);
            int commitSecret = x.term(joiner, 2);
            S.due(!x.isKnown(init) && !x.isKnown(commitSecret) && !x.isKnown(joiner));
            x.compromise(1);
            S.due(!x.isKnown(init) && !x.isKnown(joiner));
        });
        S.edge("MIXED if it knows both: one is ZERO, the other comes", x -> {
            Steps.group(x, 2);
            x.propose(0, 1, x.offer(2));
            int c = x.commit(0, false);
            int joiner = x.term(Steps.termAt(x, c + 1, 4), 2);
            S.due(x.term(joiner, 2), 1);
            S.due(!x.isKnown(joiner));
            x.compromise(1);
            S.due(x.isKnown(joiner));
        });
    }

    private static void sealedKnown() {
        S.edge("what is in a SEALED, if it knows the secret of its PUBLIC: it comes later", x -> {
            Steps.group(x, 2);
            int c = x.commit(0, true);
            int sealed = Steps.termAt(x, c, 22);
            int pathSecret = x.term(sealed, 2);
            S.due(x.isKnown(sealed) && !x.isKnown(pathSecret));
            x.compromise(1);
            S.due(x.isKnown(pathSecret));
        });
        S.edge("what is in a SEALED, if it knows the secret of its PUBLIC: it was there", x -> {
            Steps.group(x, 2);
            x.compromise(1);
            int c = x.commit(0, true);
            S.due(x.isKnown(x.term(Steps.termAt(x, c, 22), 2)));
        });
        S.edge("of each SEALED for that PUBLIC", x -> {
            Steps.group(x, 2);
            int[] in = new int[3];
            for (int k = 0; k < 3; k++) {
                in[k] = x.term(Steps.termAt(x, x.commit(0, true), 22), 2);
                S.due(!x.isKnown(in[k]));
            }
            x.compromise(1);
            for (int k = 0; k < 3; k++) {
                S.due(x.isKnown(in[k]));
            }
        });
        S.edge("both that are in a SEALED of two", x -> {
            Steps.group(x, 2);
            int pack = x.offer(2);
            x.propose(0, 1, pack);
            int c = x.commit(0, true);
            int sealed = Steps.termAt(x, c + 1, 4);
            int joiner = x.term(sealed, 2);
            int pathSecret = x.term(sealed, 3);
            S.due(!x.isKnown(joiner) && !x.isKnown(pathSecret));
            x.compromise(2);
            S.due(x.isKnown(joiner) && x.isKnown(pathSecret));
        });
        S.edge("a SEALED of what it knows, but not what is in one that it can't open", x -> {
            int name = x.make(0, 0, 0);
            int sealed = x.make(6, 2, name);
            S.due(x.isKnown(sealed));
            S.due(!x.isKnown(x.term(2, 1)));
        });
        S.edge("what is opened opens the next: path secrets from the lowest up", x -> {
            Steps.group(x, 4);
            int c = x.commit(0, true);
            int low = x.term(Steps.termAt(x, c, 22), 2);
            int high = x.term(Steps.termAt(x, c, 23), 1);
            x.compromise(2);
            S.due(x.isKnown(high));
            S.due(!x.isKnown(low));
            x.compromise(1);
            S.due(x.isKnown(low));
        });
    }

    // ---- the tree

    private static void resolutions() {
        S.edge("RESOLUTION: of a BLANK leaf nothing", x -> {
            Steps.grow(x, 3, false);
            S.due(x.node(0, 6, 4), 0);
            S.due(x.node(0, 5, 4), 1);
        });
        S.edge("RESOLUTION: of a node that is not BLANK it alone", x -> {
            Steps.group(x, 4);
            S.due(x.node(0, 3, 4), 1);
            S.due(x.node(0, 0, 4), 1);
        });
        S.edge("RESOLUTION: it, then its UNMERGED leaves, ascending", x -> {
            Steps.group(x, 5);
            S.due(Steps.commit(x, 4, true, 0), 0);
            x.propose(4, 3, 1);
            x.propose(4, 3, 3);
            S.due(Steps.commit(x, 4, false, 0), 0);
            S.due(Steps.commit(x, 0, true, 4), 0);
            x.propose(4, 1, x.offer(8));
            x.propose(4, 1, x.offer(9));
            S.due(Steps.commit(x, 4, false, 0), 0);
            S.due(x.node(4, 2, 3), 8);
            S.due(x.node(4, 6, 3), 9);
            S.due(x.node(4, 3, 2), 2);
            S.due(x.node(4, 3, 4), 3);
            int c = x.commit(4, true);
            // Of the WAY of leaf 4 the top alone counts: its key, and three SEALED.
            S.due(x.sign(c, 18), 6);
            S.due(x.sign(c, 21), 3);
            S.due(x.term(Steps.termAt(x, c, 22), 1), x.node(4, 3, 0));
            S.due(x.term(Steps.termAt(x, c, 23), 1), x.node(4, 2, 0));
            S.due(x.term(Steps.termAt(x, c, 24), 1), x.node(4, 6, 0));
        });
        S.edge("RESOLUTION: of another BLANK one those of the two below, the left one first", x -> {
            Steps.group(x, 9);
            S.due(Steps.commit(x, 2, true, 0, 4, 7, 8), 0);
            S.due(Steps.commit(x, 4, true, 0, 7, 8), 0);
            int update = x.propose(7, 2, 0);
            S.due(x.deliver(update, 8), 0);
            S.due(Steps.commit(x, 8, false), 0);
            S.due(x.node(8, 7, 0), 0);
            S.due(x.node(8, 3, 0) > 0 && x.node(8, 9, 0) > 0);
            S.due(x.node(8, 7, 4), 4);
            int c = x.commit(8, true);
            S.due(x.sign(c, 21), 4);
            int[] order = {3, 9, 12, 14};
            for (int k = 0; k < 4; k++) {
                S.due(x.term(Steps.termAt(x, c, 22 + k), 1), x.node(8, order[k], 0));
            }
        });
        S.edge("RESOLUTION: of sixteen leaves under BLANK nodes", x -> {
            Steps.grow(x, 16, false);
            S.due(x.node(0, 15, 4), 16);
            int c = x.commit(15, true);
            S.due(x.message(c), 9 + 1 + 7 + 2 + 4 * 3 + 15 + 3);
            S.due(x.deliver(c, 0) + x.deliver(c, 7) + x.deliver(c, 14), 0);
        });
    }

    private static void treeHashes() {
        S.edge("TREE HASH: of a BLANK leaf, of a LEAF, of a BLANK node", x -> {
            Steps.grow(x, 3, false);
            int top = x.member(0, 4);
            int left = x.ofTerm(top, 2) - 256;
            int right = x.ofTerm(top, 3) - 256;
            signs(x, top, 2, 0, t(left), t(right));
            int two = x.ofTerm(right, 2) - 256;
            int three = x.ofTerm(right, 3) - 256;
            signs(x, right, 2, 0, t(two), t(three));
            signs(x, three, 1, 0, 3, 0);
            int signature = x.ofTerm(two, 9) - 256;
            signs(x, two, 1, 0, 2, 1, 0, 2, t(x.node(0, 4, 0)), t(4), 1, t(signature));
        });
        S.edge("TREE HASH: of a node with a key, without a parent hash, with UNMERGED leaves", x -> {
            Steps.group(x, 3);
            x.propose(0, 1, x.offer(3));
            S.due(Steps.commit(x, 0, false), 0);
            int top = x.member(0, 4);
            int left = x.ofTerm(top, 8) - 256;
            int right = x.ofTerm(top, 9) - 256;
            signs(x, top, 2, 1, t(x.node(0, 3, 0)), 0, 0, 2, 0, 3, t(left), t(right));
            int zero = x.ofTerm(left, 6) - 256;
            int one = x.ofTerm(left, 7) - 256;
            signs(x, left, 2, 1, t(x.node(0, 1, 0)), t(x.node(0, 1, 1)), 0, 0, t(zero), t(one));
            int signature = x.ofTerm(zero, 10) - 256;
            signs(x, zero, 1, 0, 0, 1, 0, 0, t(x.node(0, 0, 0)), t(2), 3, t(x.node(0, 0, 1)), t(signature));
        });
        S.edge("TREE HASH: D 0, the leaf alone", x -> {
            x.create(0);
            int top = x.member(0, 4);
            S.due(x.term(top, 4), 10);
            S.due(x.ofTerm(top, 0), 1);
        });
        S.edge("PARENT HASH: of the other side as if UNMERGED leaves were BLANK there, and in no UNMERGED", x -> {
            // Leaf 1 comes again below nodes 3 and 7, of which leaf 2 and then leaf 4 have the PATH.
            Steps.group(x, 5);
            x.propose(0, 3, 1);
            S.due(Steps.commit(x, 0, false, 2, 4), 0);
            S.due(Steps.commit(x, 2, true, 0, 4), 0);
            S.due(Steps.commit(x, 4, true, 0, 2), 0);
            x.propose(0, 1, x.offer(9));
            int c = x.commit(0, false);
            S.due(x.deliver(c, 0), 0);
            S.due(x.node(0, 3, 2), 1);
            S.due(x.node(0, 7, 2), 1);
            S.due(x.deliver(c + 1, 9), 0);
            S.due(x.node(9, 3, 2), 1);
            S.due(x.node(9, 2, 3), 9);
        });
    }

    private static void shrinking() {
        S.edge("D is one less: from 1 to 0, not below", x -> {
            Steps.group(x, 2);
            x.propose(0, 3, 1);
            S.due(Steps.commit(x, 0, false), 0);
            S.due(x.member(0, 3), 0);
            S.due(x.node(0, 1, 0), NONE);
            S.due(x.member(0, 12), 1);
            S.due(Steps.commit(x, 0, false), 0);
            S.due(x.member(0, 3), 0);
        });
        S.edge("as long as the right half's leaves are BLANK: from 4 to 0 at once", x -> {
            Steps.group(x, 16);
            for (int leaf = 15; leaf >= 1; leaf--) {
                x.propose(0, 3, leaf);
            }
            int c = x.commit(0, false);
            S.due(x.deliver(c, 15), 0);
            S.due(x.member(15, 0), 0);
            S.due(x.deliver(c, 0), 0);
            S.due(x.member(0, 3), 0);
            S.due(x.member(0, 12), 1);
        });
        for (int last : new int[] {1, 2, 3, 4, 7, 8, 15}) {
            S.edge("as long as the right half's leaves are BLANK: the last is leaf " + last, x -> {
                Steps.group(x, 16);
                for (int leaf = 1; leaf < 16; leaf++) {
                    if (leaf != last) {
                        x.propose(0, 3, leaf);
                    }
                }
                S.due(Steps.commit(x, 0, false, last), 0);
                int depth = last < 2 ? 1 : last < 4 ? 2 : last < 8 ? 3 : 4;
                S.due(x.member(0, 3), depth);
                S.due(x.member(last, 3), depth);
                S.due(x.member(last, 7), x.member(0, 7));
                S.due(x.node(0, (2 << depth) - 1, 0), NONE);
            });
        }
        S.edge("the left half is BLANK: D stays", x -> {
            Steps.group(x, 4);
            x.propose(3, 3, 0);
            x.propose(3, 3, 1);
            S.due(Steps.commit(x, 3, false, 2), 0);
            S.due(x.member(3, 3), 2);
            S.due(x.member(2, 2), 2);
        });
        S.edge("the left half stays", x -> {
            Steps.group(x, 5);
            S.due(Steps.commit(x, 2, true, 0, 1, 3, 4), 0);
            int left = x.node(0, 5, 0);
            S.due(left > 0);
            x.propose(0, 3, 4);
            S.due(Steps.commit(x, 0, false, 1, 2, 3), 0);
            S.due(x.member(3, 3), 2);
            S.due(x.node(3, 5, 0), left);
            S.due(x.node(3, 5, 5), 1);
        });
        S.edge("REMOVEs, then D is less, then ADDs: the half goes and comes again", x -> {
            Steps.group(x, 3);
            x.propose(0, 1, x.offer(8));
            x.propose(0, 1, x.offer(9));
            x.propose(0, 3, 2);
            int c = x.commit(0, false);
            S.due(x.deliver(c, 0) + x.deliver(c, 1), 0);
            S.due(x.member(1, 3), 2);
            S.due(x.node(1, 4, 3), 8);
            S.due(x.node(1, 6, 3), 9);
            S.due(x.deliver(c + 1, 8) + x.deliver(c + 1, 9), 0);
        });
    }

    private static void growing() {
        for (int size : new int[] {1, 2, 4, 8}) {
            S.edge("without a BLANK leaf D is one more first, the top BLANK: of " + size, x -> {
                Steps.group(x, size);
                int depth = x.member(0, 3);
                int top = size > 1 ? x.node(0, size - 1, 0) : 0;
                x.propose(0, 1, x.offer(20));
                int c = x.commit(0, false);
                S.due(x.deliver(c, 0), 0);
                S.due(x.member(0, 3), depth + 1);
                S.due(x.node(0, 2 * size, 3), 20);
                S.due(x.node(0, 2 * size - 1, 0), 0);
                for (int n = 2 * size + 1; n < 4 * size - 1; n++) {
                    S.due(x.node(0, n, 0), 0);
                }
                if (size > 1) {
                    S.due(x.node(0, size - 1, 0), top);
                    S.due(x.node(0, size - 1, 2), 0);
                }
                S.due(x.deliver(c + 1, 20), 0);
                S.due(x.member(20, 2), size);
            });
        }
        S.edge("into the lowest BLANK leaf", x -> {
            Steps.group(x, 4);
            x.propose(3, 3, 0);
            x.propose(3, 3, 2);
            S.due(Steps.commit(x, 3, false), 0);
            x.propose(3, 1, x.offer(8));
            x.propose(3, 1, x.offer(9));
            x.propose(3, 1, x.offer(10));
            S.due(Steps.commit(x, 3, false), 0);
            S.due(x.node(3, 0, 3), 8);
            S.due(x.node(3, 4, 3), 9);
            S.due(x.node(3, 8, 3), 10);
            S.due(x.member(3, 3), 3);
        });
        S.edge("ADDs, in order", x -> {
            x.create(0);
            int one = x.offer(1);
            int two = x.offer(2);
            x.propose(0, 1, two);
            x.propose(0, 1, one);
            S.due(Steps.commit(x, 0, false), 0);
            S.due(x.node(0, 2, 3), 2);
            S.due(x.node(0, 4, 3), 1);
        });
        S.edge("leaves enough (of 16, behind the REMOVEs): sixteen, and one for one", x -> {
            Steps.grow(x, 16, false);
            x.propose(0, 1, x.offer(20));
            int c = x.commit(0, false);
            S.due(x.sign(c, 7) + x.sign(c, 8), 0);
            x.propose(0, 3, 9);
            x.propose(0, 1, x.offer(21));
            x.propose(0, 1, x.offer(22));
            int d = x.commit(0, false);
            S.due(x.sign(d, 8), 4 + 13);
            S.due(x.deliver(d, 0) + x.deliver(d, 15), 0);
            S.due(x.node(15, 18, 3), 21);
            S.due(x.member(15, 3), 4);
        });
    }

    private static void unmerged() {
        S.edge("UNMERGED in each node of its WAY that is not BLANK", x -> {
            Steps.group(x, 5);
            x.propose(0, 3, 3);
            S.due(Steps.commit(x, 0, false, 1, 2, 4), 0);
            x.propose(0, 1, x.offer(9));
            int c = x.commit(0, false);
            S.due(x.deliver(c, 0), 0);
            S.due(x.node(0, 5, 0), 0);
            S.due(x.node(0, 5, 2), 0);
            S.due(x.node(0, 3, 2), 1);
            S.due(x.node(0, 7, 2), 1);
            S.due(x.node(0, 1, 2), 0);
            S.due(x.deliver(c + 1, 9), 0);
            S.due(x.member(9, 2), 3);
        });
        S.edge("each node between such a leaf and it has it UNMERGED, too: the tree is SOUND", x -> {
            // Leaf 1 comes again below node 3, whose number halved is 1, too, and below the top.
            Steps.group(x, 5);
            x.propose(0, 3, 1);
            S.due(Steps.commit(x, 0, false, 4), 0);
            x.propose(0, 1, x.offer(9));
            int c = x.commit(0, false);
            S.due(x.deliver(c, 0) + x.deliver(c, 4), 0);
            S.due(x.node(0, 3, 2) + x.node(0, 7, 2), 2);
            S.due(x.deliver(c + 1, 9), 0);
            S.due(x.member(9, 2), 1);
        });
        S.edge("nothing UNMERGED in the nodes of a PATH", x -> {
            Steps.group(x, 3);
            x.propose(0, 1, x.offer(3));
            S.due(Steps.commit(x, 0, false, 1, 2), 0);
            S.due(x.node(0, 3, 2), 1);
            S.due(Steps.commit(x, 1, true, 0, 2), 0);
            S.due(x.node(0, 3, 2), 0);
            S.due(x.node(0, 3, 4), 1);
        });
        S.edge("a PATH with an ADD: the leaf is UNMERGED where the PATH does not come", x -> {
            Steps.group(x, 5);
            x.propose(0, 3, 1);
            S.due(Steps.commit(x, 0, false, 2, 3, 4), 0);
            x.propose(4, 1, x.offer(9));
            int c = x.commit(4, true);
            // Sealed for node 3 alone, of [3, leaf 1]: that leaf is ADDed.
            S.due(x.sign(c, 34), 1);
            S.due(x.term(Steps.termAt(x, c, 35), 1), x.node(4, 3, 0));
            S.due(x.deliver(c, 4) + x.deliver(c, 0) + x.deliver(c, 2), 0);
            S.due(x.node(0, 3, 2), 1);
            S.due(x.node(0, 7, 2), 0);
            S.due(x.deliver(c + 1, 9), 0);
            S.due(x.node(9, 7, 5), 1);
            S.due(x.node(9, 3, 5), 0);
        });
        S.edge("UPDATEs: the LEAF is put, its WAY is BLANK", x -> {
            Steps.group(x, 8);
            S.due(Steps.commit(x, 2, true, 0, 4, 7), 0);
            S.due(Steps.commit(x, 4, true, 0, 2, 7), 0);
            int update = x.propose(4, 2, 0);
            int key = Steps.termAt(x, update, 10);
            S.due(x.deliver(update, 0) + x.deliver(update, 7), 0);
            S.due(Steps.commit(x, 0, false, 4, 7), 0);
            S.due(x.node(7, 8, 0), key);
            S.due(x.node(7, 9, 0) + x.node(7, 11, 0), 0);
            S.due(x.node(7, 7, 0) > 0 && x.node(7, 5, 0) > 0);
            S.due(x.node(7, 8, 1), 0);
            S.due(x.node(4, 8, 5), 1);
        });
    }

    // ---- paths

    private static void pathsThatCount() {
        S.edge("COUNT: of leaves that were ADDed alone, too: no SEALED then", x -> {
            x.create(0);
            x.propose(0, 1, x.offer(1));
            int c = x.commit(0, true);
            S.due(x.sign(c, 22), 1);
            // Behind 22 signs: LEAF of seven, then ROW of a key and an empty ROW.
            S.due(x.sign(c, 30) * 256 + x.sign(c, 31), 3);
            S.due(x.sign(c, 33) + x.sign(c, 34), 0);
            S.due(x.deliver(c, 0) + x.deliver(c + 1, 1), 0);
            S.due(x.node(1, 1, 5), 1);
            S.due(x.node(1, 1, 2), 0);
        });
        S.edge("the others are BLANK", x -> {
            Steps.group(x, 5);
            S.due(Steps.commit(x, 4, true, 0), 0);
            S.due(x.node(0, 9, 0) + x.node(0, 11, 0), 0);
            S.due(x.node(0, 7, 0) > 0);
            int c = x.commit(4, true);
            S.due(x.sign(c, 18), 4);
        });
        S.edge("the others are BLANK, also those that were not", x -> {
            Steps.group(x, 4);
            S.due(x.node(0, 1, 0) > 0);
            x.propose(0, 3, 1);
            S.due(Steps.commit(x, 0, false, 2), 0);
            S.due(x.node(2, 1, 0), 0);
            S.due(x.node(2, 3, 0) > 0);
        });
        S.edge("the path secret of the lowest node that counts above its leaf; a BLANK node between", x -> {
            Steps.group(x, 5);
            for (int leaf = 1; leaf < 4; leaf++) {
                x.propose(0, 3, leaf);
            }
            S.due(Steps.commit(x, 0, false, 4), 0);
            x.propose(0, 1, x.offer(9));
            int c = x.commit(0, true);
            S.due(x.deliver(c, 0) + x.deliver(c, 4), 0);
            S.due(x.node(0, 3, 0), 0);
            S.due(x.deliver(c + 1, 9), 0);
            S.due(x.member(9, 2), 1);
            S.due(x.node(9, 1, 5), 1);
            S.due(x.node(9, 3, 5), 0);
            S.due(x.node(9, 7, 5), 1);
            S.due(x.member(9, 12), 3);
            int d = x.commit(4, true);
            S.due(x.deliver(d, 9), 0);
        });
        S.edge("a PATH must be there if an UPDATE is", x -> {
            Steps.group(x, 2);
            x.deliver(x.propose(1, 2, 0), 0);
            int c = x.commit(0, false);
            S.due(x.sign(c, 8), 2);
            S.due(x.sign(c, 11), 1);
        });
        S.edge("a PATH must be there if a REMOVE is, with ADDs too", x -> {
            Steps.group(x, 2);
            x.propose(0, 1, x.offer(2));
            x.propose(0, 3, 1);
            int c = x.commit(0, false);
            S.due(x.sign(c, 8), 17);
            S.due(x.sign(c, 26), 1);
        });
        S.edge("D 4: four nodes count", x -> {
            Steps.group(x, 16);
            int c = x.commit(15, true);
            // Sealed for leaf 14, for two, for four leaves, and for the node above leaves 0 to 7.
            S.due(x.message(c), 9 + 1 + 7 + 2 + 4 * 3 + 8 + 3);
            for (int m = 0; m < 16; m++) {
                S.due(x.deliver(c, m), 0);
            }
            S.due(x.member(15, 12), 5);
            S.due(x.member(14, 12), 5);
        });
    }

    private static void pathsWithoutNodes() {
        S.edge("no node counts: D 0; of the LEAF the parent hash is 0", x -> {
            x.create(0);
            int c = x.commit(0, true);
            S.due(x.sign(c, 15), 0);
            S.due(x.sign(c, 17) + x.sign(c, 18), 0);
            S.due(x.message(c), 22);
            int secret = Steps.secretAt(x, c, 12);
            S.due(x.deliver(c, 0), 0);
            int commitSecret = x.term(x.term(x.member(0, 7), 1), 2);
            S.due(x.term(commitSecret, 0), 3);
            S.due(x.term(commitSecret, 1), secret);
            S.due(x.term(commitSecret, 2), 4);
            S.due(x.term(commitSecret, 4), 0);
            S.due(x.node(0, 0, 1), 0);
        });
        S.edge("no node counts: D 1, the other leaf is BLANK", x -> {
            Steps.group(x, 2);
            x.propose(1, 3, 0);
            int c = x.commit(1, false);
            int secret = Steps.secretAt(x, c, 16);
            S.due(x.sign(c, 13), 1);
            S.due(x.sign(c, 19), 0);
            S.due(x.sign(c, 21) + x.sign(c, 22), 0);
            S.due(x.deliver(c, 1), 0);
            S.due(x.member(1, 3), 1);
            S.due(x.member(1, 2), 1);
            S.due(x.node(1, 1, 0), 0);
            S.due(x.term(x.term(x.term(x.member(1, 7), 1), 2), 1), secret);
            S.due(x.deliver(c, 0), 0);
            S.due(x.member(0, 0), 0);
        });
        S.edge("no node counts: behind it one comes to the BLANK leaf 0", x -> {
            Steps.group(x, 2);
            x.propose(1, 3, 0);
            S.due(Steps.commit(x, 1, false, 0), 0);
            x.propose(1, 1, x.offer(0));
            int c = x.commit(1, true);
            S.due(x.deliver(c, 1) + x.deliver(c + 1, 0), 0);
            S.due(x.member(0, 2), 0);
            S.due(x.member(0, 3), 1);
            S.due(x.node(0, 1, 5), 1);
            S.due(x.member(0, 7), x.member(1, 7));
        });
        S.edge("a PATH without nodes is taken by who is REMOVED", x -> {
            Steps.group(x, 2);
            x.propose(1, 3, 0);
            int c = x.commit(1, false);
            S.due(x.deliver(c, 0), 0);
            S.due(x.member(0, 0), 0);
        });
    }

    private static void keys() {
        S.edge("COMMIT SECRET: without a PATH ZERO", x -> {
            x.create(0);
            x.propose(0, 1, x.offer(1));
            S.due(Steps.commit(x, 0, false), 0);
            S.due(x.term(x.term(x.member(0, 7), 1), 2), 1);
        });
        S.edge("Of epoch 0: CONFIRMED is the byte 0, its JOINER a NAME", x -> {
            x.create(0);
            int secret = x.member(0, 7);
            S.due(x.term(x.term(secret, 1), 0), 0);
            signs(x, secret, 0, 0, 0, 0, t(x.member(0, 4)), 0);
            int confirmation = x.ofTerm(x.member(0, 6), 1) - 256;
            signs(x, x.member(0, 6), 0, t(confirmation));
            signs(x, confirmation, 0);
        });
        S.edge("a PROPOSAL of epoch 0 is signed with the byte 0 in CONTEXT", x -> {
            x.create(0);
            int remove = x.propose(0, 3, 1);
            int signature = Steps.termAt(x, remove, 10);
            signs(x, signature, 2, 0, 0, 0, 0, 0, 0, 3, 0, 1, 0, 0, 0, 0, t(x.member(0, 4)), 0);
        });
    }

    // ---- what is kept

    private static void keeping() {
        S.edge("PROPOSALS that it took in this epoch: kept once, however many there are", x -> {
            Steps.group(x, 2);
            int one = x.propose(1, 3, 5);
            int same = x.propose(1, 3, 5);
            for (int k = 0; k < 3; k++) {
                S.due(x.deliver(one, 0) + x.deliver(same, 0), 0);
            }
            S.due(x.member(0, 8), 1);
        });
        S.edge("however many there are: more than it may make", x -> {
            Steps.group(x, 3);
            for (int k = 0; k < 20; k++) {
                S.due(x.deliver(x.propose(1, 2, 0), 0), 0);
                S.due(x.deliver(x.propose(2, 2, 0), 0), 0);
            }
            for (int k = 0; k < 5; k++) {
                S.due(x.deliver(x.count(1) - 1 - k, 0), 0);
            }
            S.due(x.member(0, 8), 40);
            int c = x.commit(0, false);
            S.due(x.sign(c, 8), 4);
            S.due(x.deliver(c, 1), 6);
        });
        S.edge("a COMMIT of several PROPOSALS by HASH and by CONTENT is taken", x -> {
            Steps.group(x, 4);
            int update = x.propose(1, 2, 0);
            int remove = x.propose(2, 3, 3);
            int add = x.propose(1, 1, x.offer(9));
            for (int m = 0; m < 4; m++) {
                if (m != 1) {
                    S.due(x.deliver(update, m) + x.deliver(add, m), 0);
                }
                if (m != 2) {
                    S.due(x.deliver(remove, m), 0);
                }
            }
            x.propose(0, 1, x.offer(8));
            int c = x.commit(0, false);
            S.due(x.sign(c, 8), 3 * 2 + 13);
            for (int m = 0; m < 4; m++) {
                S.due(x.deliver(c, m), 0);
            }
            S.due(x.member(3, 0), 0);
            S.due(x.deliver(c + 1, 8) + x.deliver(c + 1, 9), 0);
            S.due(x.member(1, 7), x.member(8, 7));
            S.due(x.member(2, 7), x.member(9, 7));
        });
        S.edge("in this epoch: forgotten with it", x -> {
            Steps.group(x, 2);
            int remove = x.propose(0, 3, 1);
            x.propose(0, 2, 0);
            S.due(Steps.commit(x, 1, true, 0), 0);
            S.due(x.member(0, 8) + x.member(0, 9), 0);
            S.due(x.deliver(remove, 1), 2);
        });
        S.edge("a COMMIT that is refused: nothing is forgotten", x -> {
            Steps.group(x, 3);
            int update = x.propose(1, 2, 0);
            x.propose(0, 3, 2);
            x.commit(0, false);
            x.deliver(update, 2);
            int c = x.commit(2, true);
            S.due(x.deliver(c, 0), 6);
            S.due(x.member(0, 8), 1);
            S.due(x.member(0, 11), 1);
            S.due(x.deliver(update, 0), 0);
            S.due(x.deliver(c, 0), 0);
            S.due(x.member(0, 8) + x.member(0, 11), 0);
        });
    }

    private static void packagesKept() {
        S.edge("who comes IN keeps its other PACKAGES, in their order", x -> {
            int[] packs = new int[3];
            int[] init = new int[3];
            int[] leaf = new int[3];
            for (int k = 0; k < 3; k++) {
                packs[k] = x.offer(1);
                init[k] = Steps.secretAt(x, packs[k], 1);
                leaf[k] = Steps.secretAt(x, packs[k], 4);
            }
            x.create(0);
            x.propose(0, 1, packs[0]);
            int c = x.commit(0, false);
            x.deliver(c, 0);
            S.due(x.deliver(c + 1, 1), 0);
            S.due(x.member(1, 10), 2);
            x.compromise(1);
            S.due(!x.isKnown(init[0]) && x.isKnown(leaf[0]));
            S.due(x.isKnown(init[1]) && x.isKnown(leaf[1]));
            S.due(x.isKnown(init[2]) && x.isKnown(leaf[2]));
        });
        for (int which = 0; which < 3; which++) {
            int w = which;
            S.edge("a PACKAGE is used, the others serve later: number " + w, x -> {
                int[] packs = {x.offer(1), x.offer(1), x.offer(1)};
                x.create(0);
                for (int k = 0; k < 3; k++) {
                    x.propose(0, 1, packs[(k + w) % 3]);
                    int c = x.commit(0, true);
                    S.due(x.deliver(c, 0), 0);
                    S.due(x.deliver(c + 1, 1), 0);
                    S.due(x.member(1, 10), 2 - k);
                    x.propose(0, 3, 1);
                    S.due(Steps.commit(x, 0, false, 1), 0);
                    S.due(x.member(1, 0), 0);
                    S.due(x.deliver(c + 1, 1), 13);
                }
            });
        }
        S.edge("who comes OUT keeps its PACKAGES, too", x -> {
            Steps.group(x, 2);
            x.offer(1);
            x.offer(1);
            x.propose(0, 3, 1);
            S.due(Steps.commit(x, 0, false, 1), 0);
            S.due(x.member(1, 10), 2);
        });
        S.edge("a WELCOME that is refused uses no PACKAGE", x -> {
            x.create(0);
            int pack = x.offer(1);
            x.propose(0, 1, pack);
            int c = x.commit(0, false);
            int bad = Steps.withByte(x, c + 1, 8, 7);
            S.due(x.deliver(bad, 1), 4);
            S.due(x.member(1, 10), 1);
            S.due(x.deliver(c + 1, 1), 0);
            S.due(x.member(1, 10), 0);
        });
    }

    private static void removed() {
        S.edge("who is REMOVED is OUT, and no other: one at that leaf of another group stays", x -> {
            x.create(0);
            x.propose(0, 1, x.offer(1));
            int c = x.commit(0, true);
            x.deliver(c, 0);
            x.deliver(c + 1, 1);
            x.create(10);
            x.propose(10, 1, x.offer(11));
            int d = x.commit(10, true);
            x.deliver(d, 10);
            x.deliver(d + 1, 11);
            x.propose(0, 3, 1);
            S.due(Steps.commit(x, 0, false, 1), 0);
            S.due(x.member(1, 0), 0);
            S.due(Steps.commit(x, 10, true, 11), 0);
            S.due(x.member(11, 0), 1);
            S.due(x.member(11, 1), 2);
        });
        S.edge("who is REMOVED is OUT, also if its member is ADDed again", x -> {
            Steps.group(x, 3);
            int pack = x.offer(1);
            x.propose(0, 3, 1);
            x.propose(0, 1, pack);
            int c = x.commit(0, false);
            S.due(x.deliver(c + 1, 1), 2);
            S.due(x.deliver(c, 1), 0);
            S.due(x.member(1, 0), 0);
            S.due(x.deliver(c + 1, 1), 0);
            S.due(x.member(1, 2), 1);
            S.due(x.deliver(c, 2), 0);
            S.due(x.member(2, 7), x.member(1, 7));
        });
        S.edge("the COMMIT that REMOVED it, and those behind, are of another epoch", x -> {
            Steps.group(x, 3);
            x.propose(0, 3, 2);
            int c = x.commit(0, false);
            S.due(x.deliver(c, 2) + x.deliver(c, 0), 0);
            S.due(x.deliver(c, 2), 2);
            S.due(x.deliver(x.commit(0, true), 2), 2);
        });
    }

    private static void ownCommits() {
        S.edge("its own COMMIT, 0: its SIGNS are those of the PENDING COMMIT, also in another message", x -> {
            Steps.group(x, 2);
            int c = x.commit(0, true);
            x.copy(c, 0, 1200);
            S.due(x.deliver(x.post(), 0), 0);
            S.due(x.deliver(c, 0), 2);
        });
        S.edge("its own COMMIT, 3: nothing is PENDING, as the epoch came another way", x -> {
            Steps.group(x, 2);
            int old = x.commit(0, true);
            S.due(Steps.commit(x, 1, true, 0), 0);
            S.due(x.member(0, 11), 0);
            S.due(x.deliver(old, 0), 2);
        });
        for (int k : new int[] {12, 16, 19}) {
            S.edge("its own COMMIT, 3: one sign is another: " + k, x -> {
                Steps.group(x, 2);
                int c = x.commit(0, true);
                int other = x.commit(0, true);
                int bad = Steps.withTerm(x, other, k, Steps.termAt(x, c, k));
                S.due(x.deliver(bad, 0), 3);
                S.due(x.member(0, 11), 1);
                S.due(x.deliver(other, 0), 0);
            });
        }
        S.edge("its own COMMIT, 3: the last sign is another", x -> {
            Steps.group(x, 2);
            int c = x.commit(0, true);
            int last = x.message(c) - 1;
            int bad = Steps.withTerm(x, c, last, Steps.termAt(x, c, last - 1));
            S.due(x.deliver(bad, 0), 3);
            S.due(x.deliver(c, 0), 0);
        });
        S.edge("its own COMMIT, 3: it is longer than the PENDING one", x -> {
            Steps.group(x, 2);
            x.propose(0, 1, x.offer(2));
            int longer = x.commit(0, true);
            int pending = x.commit(0, false);
            S.due(x.message(longer) > x.message(pending));
            S.due(x.deliver(longer, 0), 3);
            S.due(x.deliver(pending, 0), 0);
        });
    }
}
