/** For each promise its ordinary inputs, the edges that the document names, and wrong inputs. */
public final class PromiseTest {
    private static final Expect E = new Expect();
    private static final int NONE = KeyGroups.NONE;

    public static void main(String[] args) {
        newObject();
        feed();
        end();
        place();
        copy();
        create();
        createdKeys();
        offer();
        offerLimits();
        propose();
        proposeWrong();
        proposeLimits();
        commit();
        commitSigns();
        commitWelcome();
        commitLeavesOut();
        commitFills();
        commitMany();
        commitLimits();
        commitPending();
        deliver();
        deliverChanges();
        leafZeroUnmerged();
        updatesThatDoNotGo();
        treeGrowsAndShrinks();
        post();
        make();
        makeWrong();
        compromise();
        compromiseHeals();
        compromiseKeeps();
        isKnown();
        term();
        ofTerm();
        messageAndSign();
        member();
        node();
        count();
        numbers();
        E.is("NONE", NONE, -1);
        E.finish();
    }

    // ---- helpers

    private static KeyGroups group(int size) {
        KeyGroups x = new KeyGroups();
        x.create(0);
        for (int m = 1; m < size; m++) {
            x.propose(0, 1, x.offer(m));
        }
        if (size > 1) {
            int c = x.commit(0, true);
            x.deliver(c, 0);
            for (int m = 1; m < size; m++) {
                x.deliver(c + 1, m);
            }
        }
        return x;
    }

    private static void fillMessages(KeyGroups x, int until) {
        for (int k = x.count(1); k < until; k++) {
            x.post();
        }
    }

    private static void bytes(KeyGroups x, int... b) {
        for (int one : b) {
            x.feed(one << 24, 0, 0, 0, 0);
            x.end(1);
        }
    }

    private static void signsOf(KeyGroups x, String what, int term, int... want) {
        E.is(what + ": how many", x.term(term, 4), want.length);
        for (int k = 0; k < want.length; k++) {
            E.is(what + ": sign " + k, x.ofTerm(term, k), want[k]);
        }
    }

    private static int t(int number) {
        return 256 + number;
    }

    private static int termAt(KeyGroups x, int message, int k) {
        return x.sign(message, k) - 256;
    }

    // ---- promise 1

    private static void newObject() {
        KeyGroups x = new KeyGroups();
        for (int m = 0; m < 24; m++) {
            E.is("1: out", x.member(m, 0), 0);
            E.is("1: no epoch", x.member(m, 1), NONE);
            E.is("1: no packages", x.member(m, 10), 0);
            E.is("1: signature key", x.term(2 + m, 0), 5);
            E.is("1: known", x.isKnown(2 + m));
        }
        E.is("1: terms", x.count(0), 25);
        E.is("1: messages", x.count(1), 0);
        E.is("1: known terms", x.count(2), 25);
        E.is("1: tape", x.count(3), 0);
    }

    // ---- promises 2 to 5

    private static void feed() {
        KeyGroups x = new KeyGroups();
        x.feed(9, 9, 9, 9, 9);
        x.feed(0x01020304, 0x05060708, 0x090a0b0c, 0x0d0e0f10, 0xfff2f3f4);
        E.is("2: end(20)", x.end(20), 20);
        x.feed(-1, -1, -1, -1, -1);
        E.is("2: end(0) answers a number", x.end(0), 20);
        E.is("2: zeroes behind it", x.end(2), 22);
        x.feed(0x7f000000, 0, 0, 0, 0);
        E.is("2: end(21) does not", x.end(21), NONE);
        E.is("2: nor end(-1)", x.end(-1), NONE);
        E.is("2: they stay ready", x.end(1), 23);
        x.post();
        int[] want = {1, 2, 3, 4, 5, 6, 7, 8, 9, 10, 11, 12, 13, 14, 15, 16, 255, 0xf2, 0xf3, 0xf4, 0, 0, 127};
        for (int k = 0; k < want.length; k++) {
            E.is("2: sign " + k, x.sign(0, k), want[k]);
        }
        E.is("2: end without feed", x.end(3), 3);
        x.post();
        E.is("2: zeroes at first", x.sign(1, 2), 0);
    }

    private static void end() {
        KeyGroups x = new KeyGroups();
        E.is("3: end(0)", x.end(0), 0);
        for (int k = 1; k <= 59; k++) {
            E.is("3: end(20)", x.end(20), 20 * k);
        }
        E.is("3: end(19)", x.end(19), 1199);
        E.is("3: too many", x.end(2), NONE);
        E.is("3: nothing came", x.count(3), 1199);
        E.is("3: the last one", x.end(1), 1200);
        E.is("3: one more", x.end(1), NONE);
        E.is("3: none more", x.end(0), 1200);
        E.is("3: 21", x.end(21), NONE);
        E.is("3: -1", x.end(-1), NONE);
        E.is("3: the least int", x.end(Integer.MIN_VALUE), NONE);
    }

    private static void place() {
        KeyGroups x = new KeyGroups();
        E.is("4: ZERO", x.place(1), 1);
        E.is("4: a signature key", x.place(25), 2);
        E.index("4: 26", () -> x.place(26));
        E.index("4: 0", () -> x.place(0));
        E.index("4: -1", () -> x.place(-1));
        int secret = x.term(2, 1);
        E.is("4: a term that is not known", !x.isKnown(secret));
        E.is("4: comes, too", x.place(secret), 3);
        x.post();
        E.is("4: sign", x.sign(0, 2), t(secret));
        for (int k = 0; k < 60; k++) {
            x.end(20);
        }
        E.is("4: the tape is full", x.place(1), NONE);
        E.index("4: full, and no such number", () -> x.place(99));
        E.is("4: nothing came", x.count(3), 1200);
    }

    private static void copy() {
        KeyGroups x = new KeyGroups();
        bytes(x, 10, 11, 12);
        x.post();
        E.is("5: part", x.copy(0, 1, 1), 1);
        E.is("5: as many as there are", x.copy(0, 1, 9), 3);
        E.is("5: far more", x.copy(0, 0, Integer.MAX_VALUE), 6);
        E.is("5: none of them", x.copy(0, 0, 0), 6);
        E.is("5: from its end", x.copy(0, 3, 5), 6);
        E.is("5: beyond its end", x.copy(0, 4, 0), NONE);
        E.is("5: k below 0", x.copy(0, -1, 1), NONE);
        E.is("5: n below 0", x.copy(0, 0, -1), NONE);
        E.is("5: no such message", x.copy(1, 0, 1), NONE);
        E.is("5: nor -1", x.copy(-1, 0, 1), NONE);
        E.is("5: nothing came", x.count(3), 6);
        x.post();
        int[] want = {11, 11, 12, 10, 11, 12};
        for (int k = 0; k < want.length; k++) {
            E.is("5: sign " + k, x.sign(1, k), want[k]);
        }
        for (int k = 0; k < 200; k++) {
            x.copy(1, 0, 6);
        }
        E.is("5: full", x.copy(1, 0, 1), NONE);
        E.is("5: full, but none come", x.copy(1, 6, 1), 1200);
        KeyGroups y = new KeyGroups();
        int pack = y.offer(3);
        y.copy(pack, 0, 99);
        E.is("5: copying tells no term", y.count(0), 25);
        int copied = y.post();
        E.is("5: a copy is the same", y.sign(copied, 8), y.sign(pack, 8));
    }

    // ---- promise 6

    private static void create() {
        KeyGroups x = new KeyGroups();
        E.index("6: -1", () -> {
            x.create(-1);
            return 0;
        });
        E.index("6: 24", () -> {
            x.create(24);
            return 0;
        });
        x.create(23);
        E.is("6: no message", x.count(1), 0);
        E.is("6: in", x.member(23, 0), 1);
        E.is("6: epoch", x.member(23, 1), 0);
        E.is("6: leaf", x.member(23, 2), 0);
        E.is("6: D", x.member(23, 3), 0);
        E.is("6: no CONFIRMED", x.member(23, 5), 0);
        E.is("6: its leaf's secret", x.member(23, 12), 1);
        E.is("6: the member of leaf 0", x.node(23, 0, 3), 23);
        E.state("6: it is in", () -> {
            x.create(23);
            return 0;
        });
        x.create(5);
        E.is("6: another group", x.member(5, 4) != x.member(23, 4));
    }

    private static void createdKeys() {
        KeyGroups x = new KeyGroups();
        x.create(3);
        int tree = x.member(3, 4);
        int interim = x.member(3, 6);
        int secret = x.member(3, 7);
        int key = x.node(3, 0, 0);
        int leafSign = x.ofTerm(tree, 9) - 256;
        signsOf(x, "6: tree hash", tree, 1, 0, 0, 1, 0, 3, t(key), t(5), 1, t(leafSign));
        E.is("6: leaf signature", x.term(leafSign, 0), 7);
        E.is("6: by the member", x.term(leafSign, 1), x.term(5, 1));
        signsOf(x, "6: leaf signature", leafSign, 0, 3, t(key), t(5), 1);
        E.is("6: EPOCH SECRET", x.term(secret, 0), 3);
        E.is("6: its label", x.term(secret, 2), 0);
        E.is("6: of a NAME", x.term(x.term(secret, 1), 0), 0);
        signsOf(x, "6: CONTEXT", secret, 0, 0, 0, 0, t(tree), 0);
        int confirmation = x.ofTerm(interim, 1) - 256;
        signsOf(x, "6: INTERIM", interim, 0, t(confirmation));
        E.is("6: a MAC", x.term(confirmation, 0), 2);
        signsOf(x, "6: confirmation", confirmation, 0);
        int confirmationKey = x.term(confirmation, 1);
        E.is("6: CONFIRMATION key's label", x.term(confirmationKey, 2), 2);
        E.is("6: of the EPOCH SECRET", x.term(confirmationKey, 1), secret);
        E.is("6: of nothing", x.term(confirmationKey, 4), 0);
        E.is("6: the key is of a NAME", x.term(x.term(key, 1), 0), 0);
        E.is("6: which is not the JOINER", x.term(key, 1) != x.term(secret, 1));
        E.is("6: nobody saw the key", !x.isKnown(key));
    }

    // ---- promise 7

    private static void offer() {
        KeyGroups x = new KeyGroups();
        E.index("7: -1", () -> x.offer(-1));
        E.index("7: 24", () -> x.offer(24));
        int p = x.offer(6);
        E.is("7: number", p, 0);
        E.is("7: length", x.message(p), 9);
        int init = termAt(x, p, 1);
        int key = termAt(x, p, 4);
        int leafSign = termAt(x, p, 7);
        int sign = termAt(x, p, 8);
        int[] want = {1, t(init), 0, 6, t(key), t(8), 1, t(leafSign), t(sign)};
        for (int k = 0; k < 9; k++) {
            E.is("7: sign " + k, x.sign(p, k), want[k]);
        }
        E.is("7: init key", x.term(init, 0), 5);
        E.is("7: key", x.term(key, 0), 5);
        E.is("7: they are two", init != key);
        signsOf(x, "7: leaf signature", leafSign, 0, 6, t(key), t(8), 1);
        signsOf(x, "7: signature", sign, 1, t(init), 0, 6, t(key), t(8), 1, t(leafSign));
        E.is("7: signed by the member", x.term(sign, 1), x.term(8, 1));
        E.is("7: of nothing else", x.term(sign, 2) + x.term(sign, 3), 0);
        E.is("7: the leaf's, too", x.term(leafSign, 2) + x.term(leafSign, 3), 0);
        E.is("7: kept", x.member(6, 10), 1);
        E.is("7: sent, so known", x.isKnown(sign) && x.isKnown(init) && x.isKnown(key));
        E.is("7: the secret is not", !x.isKnown(x.term(init, 1)));
    }

    private static void offerLimits() {
        KeyGroups x = new KeyGroups();
        for (int k = 0; k < 8; k++) {
            E.is("7: eight", x.offer(1), k);
        }
        E.state("7: not nine", () -> x.offer(1));
        E.is("7: nothing made", x.count(1), 8);
        E.is("7: another member", x.offer(2), 8);
        x.create(3);
        E.is("7: who is in may, too", x.offer(3), 9);
        fillMessages(x, 299);
        E.is("7: the last message", x.offer(4), 299);
        E.state("7: 300 messages", () -> x.offer(5));
        E.index("7: no member comes first", () -> x.offer(24));
    }

    // ---- promise 8

    private static void propose() {
        KeyGroups x = group(2);
        int p = x.offer(7);
        int add = x.propose(1, 1, p);
        E.is("8: length of an ADD", x.message(add), 21);
        int[] head = {2, 0, 0, 0, 1, 0, 1, 1, 0, 9};
        for (int k = 0; k < head.length; k++) {
            E.is("8: ADD sign " + k, x.sign(add, k), head[k]);
        }
        for (int k = 0; k < 9; k++) {
            E.is("8: the package " + k, x.sign(add, 10 + k), x.sign(p, k));
        }
        int update = x.propose(1, 2, 77);
        E.is("8: length of an UPDATE", x.message(update), 16);
        int key = termAt(x, update, 10);
        int leafSign = termAt(x, update, 13);
        int[] leaf = {2, 0, 1, t(key), t(3), 2, t(leafSign)};
        for (int k = 0; k < leaf.length; k++) {
            E.is("8: UPDATE sign " + (7 + k), x.sign(update, 7 + k), leaf[k]);
        }
        signsOf(x, "8: the leaf's signature has its number", leafSign, 0, 1, t(key), t(3), 2, 0, 1);
        E.is("8: an UPDATE is kept", x.member(1, 9), 1);
        int remove = x.propose(1, 3, 15);
        E.is("8: length of a REMOVE", x.message(remove), 12);
        E.is("8: its leaf", x.sign(remove, 9), 15);
        int sign = termAt(x, remove, 10);
        int tree = x.member(1, 4);
        int confirmed = x.member(1, 5);
        signsOf(x, "8: signature", sign, 2, 0, 0, 0, 1, 0, 1, 3, 0, 15, 0, 0, 0, 1, t(tree), t(confirmed));
        E.is("8: by the member", x.term(sign, 1), x.term(3, 1));
        int tag = termAt(x, remove, 11);
        signsOf(x, "8: tag", tag, 2, 0, 0, 0, 1, 0, 1, 3, 0, 15, t(sign));
        int membership = x.term(tag, 1);
        E.is("8: MEMBERSHIP key", x.term(membership, 2), 3);
        E.is("8: the tag is of nothing else", x.term(tag, 2) + x.term(tag, 3), 0);
        E.is("8: of the EPOCH SECRET", x.term(membership, 1), x.member(1, 7));
        E.is("8: kept", x.member(1, 8), 3);
        E.is("8: the same again is another message", x.propose(1, 3, 15), remove + 1);
        E.is("8: and kept once", x.member(1, 8), 3);
        E.is("8: two UPDATES are two", x.propose(1, 2, 0), remove + 2);
        E.is("8: both kept", x.member(1, 8), 4);
        E.is("8: with both secrets", x.member(1, 9), 2);
    }

    private static void proposeWrong() {
        KeyGroups x = group(2);
        E.index("8: member -1", () -> x.propose(-1, 2, 0));
        E.index("8: member 24", () -> x.propose(24, 2, 0));
        E.index("8: kind 0", () -> x.propose(0, 0, 0));
        E.index("8: kind 4", () -> x.propose(0, 4, 0));
        E.index("8: no message", () -> x.propose(0, 1, 99));
        E.index("8: message -1", () -> x.propose(0, 1, -1));
        E.index("8: leaf -1", () -> x.propose(0, 3, -1));
        E.index("8: leaf 16", () -> x.propose(0, 3, 16));
        E.argument("8: a proposal is no package", () -> x.propose(0, 1, 1));
        E.argument("8: nor is a commit", () -> x.propose(0, 1, 2));
        E.argument("8: nor is a welcome", () -> x.propose(0, 1, 3));
        int p = x.offer(5);
        x.copy(p, 0, 8);
        x.copy(p, 7, 1);
        int bad = x.post();
        E.argument("8: a package that is not signed", () -> x.propose(0, 1, bad));
        int empty = x.post();
        E.argument("8: an empty message", () -> x.propose(0, 1, empty));
        E.argument("8: the message comes ahead of who is out", () -> x.propose(9, 1, empty));
        E.index("8: the leaf, too", () -> x.propose(9, 3, 16));
        E.state("8: out", () -> x.propose(9, 2, 0));
        E.state("8: out, with a package", () -> x.propose(9, 1, p));
        E.is("8: nothing is kept", x.member(0, 8), 0);
        E.is("8: update's last argument is not asked", x.propose(0, 2, -5) > 0);
    }

    private static void proposeLimits() {
        KeyGroups x = group(2);
        for (int leaf = 0; leaf < 16; leaf++) {
            x.propose(0, 3, leaf);
        }
        for (int k = 0; k < 4; k++) {
            x.propose(0, 2, 0);
        }
        E.is("8: twenty", x.member(0, 8), 20);
        E.state("8: not more", () -> x.propose(0, 2, 0));
        E.state("8: nor one that it keeps", () -> x.propose(0, 3, 0));
        E.index("8: the leaf comes first", () -> x.propose(0, 3, 16));
        fillMessages(x, 299);
        E.is("8: the last message", x.propose(1, 3, 0), 299);
        E.state("8: 300 messages", () -> x.propose(1, 3, 1));
    }

    // ---- promise 9

    private static void commit() {
        KeyGroups x = new KeyGroups();
        E.index("9: -1", () -> x.commit(-1, true));
        E.index("9: 24", () -> x.commit(24, true));
        E.state("9: out", () -> x.commit(0, true));
        x.create(0);
        int c = x.commit(0, false);
        E.is("9: number", c, 0);
        E.is("9: alone, nothing proposed: a path with a leaf", x.message(c), 22);
        E.is("9: a path is there", x.sign(c, 9), 1);
        E.is("9: without a parent hash", x.sign(c, 15), 0);
        E.is("9: no nodes", x.sign(c, 17) + x.sign(c, 18), 0);
        E.is("9: pending", x.member(0, 11), 1);
        E.is("9: the epoch is as it was", x.member(0, 1), 0);
        int name = x.term(termAt(x, c, 12), 1);
        E.is("9: taken", x.deliver(c, 0), 0);
        int joiner = x.term(x.member(0, 7), 1);
        E.is("9: JOINER is MIXED", x.term(joiner, 0), 4);
        E.is("9: INIT has label 1", x.term(x.term(joiner, 1), 2), 1);
        int commitSecret = x.term(joiner, 2);
        E.is("9: the COMMIT SECRET is DERIVED 4", x.term(commitSecret, 2), 4);
        E.is("9: of the new leaf's secret", x.term(commitSecret, 1), name);
    }

    private static void commitSigns() {
        KeyGroups x = group(3);
        int interim = x.member(1, 6);
        int oldSecret = x.member(1, 7);
        int oldTree = x.member(1, 4);
        int oldConfirmed = x.member(1, 5);
        int c = x.commit(1, true);
        // Leaf 1 is below node 1, with leaf 0 beside; then node 3, with node 5 (blank, leaf 2 alone) beside.
        int[] shape = {3, 0, 0, 0, 1, 0, 1, 0, 0, 1, 0, 1};
        for (int k = 0; k < shape.length; k++) {
            E.is("9: sign " + k, x.sign(c, k), shape[k]);
        }
        int key = termAt(x, c, 12);
        int parentHash = termAt(x, c, 15);
        int leafSign = termAt(x, c, 16);
        int low = termAt(x, c, 19);
        int lowSealed = termAt(x, c, 22);
        int high = termAt(x, c, 23);
        int highSealed = termAt(x, c, 26);
        int[] rest = {t(key), t(3), 3, t(parentHash), t(leafSign), 0, 8, t(low), 0, 1, t(lowSealed),
            t(high), 0, 1, t(highSealed)};
        for (int k = 0; k < rest.length; k++) {
            E.is("9: sign " + (12 + k), x.sign(c, 12 + k), rest[k]);
        }
        E.is("9: length", x.message(c), 30);
        signsOf(x, "9: leaf signature", leafSign, 0, 1, t(key), t(3), 3, t(parentHash), 0, 1);
        E.is("9: sealed for leaf 0", x.term(lowSealed, 1), x.node(1, 0, 0));
        E.is("9: sealed for leaf 2", x.term(highSealed, 1), x.node(1, 4, 0));
        int first = x.term(lowSealed, 2);
        int second = x.term(highSealed, 2);
        E.is("9: one term in it", x.term(lowSealed, 3), 0);
        E.is("9: the lowest is a NAME", x.term(first, 0), 0);
        E.is("9: the next is DERIVED", x.term(second, 0), 3);
        E.is("9: by 4", x.term(second, 2), 4);
        E.is("9: of it", x.term(second, 1), first);
        E.is("9: NODE SECRET by 5", x.term(x.term(low, 1), 2), 5);
        E.is("9: of the path secret", x.term(x.term(low, 1), 1), first);
        E.is("9: and above", x.term(x.term(high, 1), 1), second);
        int other = x.ofTerm(parentHash, 2) - 256;
        int lowHash = x.ofTerm(parentHash, 1) - 256;
        signsOf(x, "9: parent hash of the leaf", parentHash, t(low), t(lowHash), t(other));
        E.is("9: the other side is leaf 0", x.ofTerm(other, 2), 0);
        int otherHigh = x.ofTerm(lowHash, 2) - 256;
        signsOf(x, "9: parent hash of the node", lowHash, t(high), 0, t(otherHigh));
        E.is("9: of a node that is blank", x.ofTerm(otherHigh, 1), 0);
        int sign = termAt(x, c, 27);
        E.is("9: signature of all ahead and the context", x.term(sign, 4), 27 + 6);
        E.is("9: the context's tree", x.ofTerm(sign, 31), t(oldTree));
        E.is("9: the context's CONFIRMED", x.ofTerm(sign, 32), t(oldConfirmed));
        int tag = termAt(x, c, 29);
        E.is("9: tag of all ahead", x.term(tag, 4), 29);
        E.is("9: the confirmation, too", x.ofTerm(tag, 28), x.sign(c, 28));
        E.is("9: by the old MEMBERSHIP key", x.term(x.term(tag, 1), 1), oldSecret);
        x.deliver(c, 1);
        int confirmed = x.member(1, 5);
        E.is("9: CONFIRMED is of INTERIM", x.ofTerm(confirmed, 0), t(interim));
        E.is("9: and the commit with its signature", x.term(confirmed, 4), 29);
        E.is("9: which comes last", x.ofTerm(confirmed, 28), t(sign));
        signsOf(x, "9: confirmation", termAt(x, c, 28), t(confirmed));
        signsOf(x, "9: CONTEXT", x.member(1, 7), 0, 0, 0, 2, t(x.member(1, 4)), t(confirmed));
        signsOf(x, "9: INTERIM", x.member(1, 6), t(confirmed), x.sign(c, 28));
        int joiner = x.term(x.member(1, 7), 1);
        E.is("9: COMMIT SECRET of the last path secret", x.term(x.term(joiner, 2), 1), second);
        E.is("9: INIT of the epoch before", x.term(x.term(joiner, 1), 1), oldSecret);
        E.is("9: it has all secrets of the path", x.member(1, 12), 3);
    }

    private static void commitWelcome() {
        KeyGroups x = group(2);
        int p = x.offer(7);
        int q = x.offer(8);
        int add = x.propose(0, 1, p);
        x.propose(1, 1, q);
        E.is("9: the proposal of another", x.deliver(add, 1), 0);
        int c = x.commit(1, false);
        E.is("9: a commit and a welcome", x.count(1), c + 2);
        E.is("9: its own by content", x.sign(c, 9), 2);
        E.is("9: which is an ADD", x.sign(c, 10), 1);
        E.is("9: behind it", x.sign(c, 22), 1);
        int hash = termAt(x, c, 23);
        E.is("9: others' by HASH", x.term(hash, 0), 1);
        E.is("9: of the whole proposal", x.term(hash, 4), 21);
        E.is("9: with its tag", x.ofTerm(hash, 20), x.sign(add, 20));
        E.is("9: without a path", x.sign(c, 24), 0);
        E.is("9: length", x.message(c), 28);
        int w = c + 1;
        E.is("9: welcome", x.sign(w, 0), 4);
        E.is("9: for two", x.sign(w, 2), 4);
        int first = termAt(x, w, 3);
        E.is("9: HASH of the package", x.term(first, 4), 9);
        E.is("9: in order of the ADDs", x.ofTerm(first, 8), x.sign(q, 8));
        int sealed = termAt(x, w, 4);
        E.is("9: for the init key", t(x.term(sealed, 1)), x.sign(q, 1));
        E.is("9: JOINER alone", x.term(sealed, 3), 0);
        int joiner = x.term(sealed, 2);
        E.is("9: with ZERO", x.term(joiner, 2), 1);
        E.is("9: epoch", x.sign(w, 10), 2);
        E.is("9: of leaf 1", x.sign(w, 14), 1);
        x.deliver(c, 1);
        E.is("9: tree hash", x.sign(w, 11), t(x.member(1, 4)));
        E.is("9: CONFIRMED", x.sign(w, 12), t(x.member(1, 5)));
        E.is("9: JOINER is that of the epoch", x.term(x.member(1, 7), 1), joiner);
        E.is("9: confirmation as in the commit", x.sign(w, x.message(w) - 2), x.sign(c, 26));
        int sign = termAt(x, w, x.message(w) - 1);
        E.is("9: signature of all of INFO", x.term(sign, 4), x.message(w) - 1 - 7);
        E.is("9: from the epoch on", x.ofTerm(sign, 3), 2);
        E.is("9: by who commits", x.term(sign, 1), x.term(3, 1));
        E.is("9: of nothing else", x.term(sign, 2) + x.term(sign, 3), 0);
        E.is("9: both join", x.deliver(w, 7) + x.deliver(w, 8), 0);
        E.is("9: at leaf 2", x.member(8, 2), 2);
        E.is("9: at leaf 3", x.member(7, 2), 3);
        int again = x.commit(1, true);
        E.is("9: with a path", x.sign(again, 9), 1);
        x.deliver(again, 1);
        int r = x.offer(9);
        x.propose(1, 1, r);
        int d = x.commit(1, true);
        int two = termAt(x, d + 1, 4);
        E.is("9: a path secret, too", x.term(two, 3) > 0);
        E.is("9: that of the top", x.term(x.term(two, 3), 0), 3);
    }

    private static void commitLeavesOut() {
        KeyGroups x = group(3);
        int p = x.offer(7);
        int q = x.offer(7);
        int own = x.offer(1);
        x.propose(0, 3, 0);
        x.propose(0, 2, 0);
        x.propose(0, 3, 9);
        x.propose(0, 1, own);
        x.propose(0, 3, 1);
        x.propose(0, 3, 1);
        x.propose(0, 1, p);
        x.propose(0, 1, q);
        x.propose(0, 1, x.offer(1));
        int update = x.propose(1, 2, 0);
        E.is("9: an update of a leaf that goes", x.deliver(update, 0), 0);
        int second = x.propose(2, 2, 0);
        int third = x.propose(2, 2, 0);
        x.deliver(second, 0);
        x.deliver(third, 0);
        int c = x.commit(0, false);
        // REMOVE 1, ADD 7 once, ADD 1 behind its REMOVE, the first UPDATE of leaf 2.
        E.is("9: so many signs of proposals", x.sign(c, 8), 4 + 13 + 13 + 2);
        E.is("9: REMOVE first", x.sign(c, 10), 3);
        E.is("9: then ADD", x.sign(c, 14), 1);
        E.is("9: of member 7", x.sign(c, 20), 7);
        E.is("9: then ADD", x.sign(c, 27), 1);
        E.is("9: of member 1", x.sign(c, 33), 1);
        E.is("9: then by HASH", x.sign(c, 39), 1);
        E.is("9: a path must be", x.sign(c, 41), 1);
        E.is("9: done", x.deliver(c, 0), 0);
        E.is("9: 7 at leaf 1", x.node(0, 2, 3), 7);
        E.is("9: 1 at leaf 3", x.node(0, 6, 3), 1);
        E.is("9: others are forgotten", x.member(0, 8), 0);
        E.is("9: member 1 is removed", x.deliver(c, 1), 6);
    }

    private static void commitFills() {
        KeyGroups x = new KeyGroups();
        x.create(0);
        for (int m = 1; m <= 17; m++) {
            x.propose(0, 1, x.offer(m));
        }
        int c = x.commit(0, false);
        E.is("9: fifteen find a leaf", x.sign(c + 1, 2), 30);
        E.is("9: fifteen contents", x.sign(c, 7) * 256 + x.sign(c, 8), 15 * 13);
        E.is("9: done", x.deliver(c, 0), 0);
        E.is("9: sixteen leaves", x.member(0, 3), 4);
        for (int m = 1; m <= 15; m++) {
            E.is("9: join", x.deliver(c + 1, m), 0);
            E.is("9: leaf", x.member(m, 2), m);
        }
        E.is("9: no more", x.deliver(c + 1, 16), 13);
        int p = x.offer(20);
        x.propose(3, 1, p);
        int full = x.commit(3, false);
        E.is("9: none is added", x.sign(full, 7) + x.sign(full, 8), 0);
        E.is("9: so a path is there", x.sign(full, 9), 1);
        E.is("9: taken by all", x.deliver(full, 0) + x.deliver(full, 15), 0);
        E.is("9: four nodes and the leaf", x.deliver(full, 3) + x.member(3, 12), 5);
        for (int m = 0; m < 16; m++) {
            x.deliver(full, m);
        }
        x.propose(5, 1, p);
        x.propose(5, 3, 3);
        int swap = x.commit(5, false);
        E.is("9: an ADD ahead of the REMOVE has no leaf", x.sign(swap, 8), 4);
        x.deliver(swap, 5);
        E.is("9: leaf 3 is blank", x.node(5, 6, 0), 0);
        x.propose(5, 3, 2);
        x.propose(5, 1, p);
        x.propose(5, 1, x.offer(21));
        int both = x.commit(5, false);
        E.is("9: now there is room for both", x.sign(both, 8), 4 + 13 + 13);
        x.deliver(both, 5);
        E.is("9: the lowest leaf first", x.node(5, 4, 3), 20);
        E.is("9: then the next", x.node(5, 6, 3), 21);
    }

    private static void commitMany() {
        KeyGroups x = group(2);
        for (int m = 2; m < 16; m++) {
            x.propose(0, 1, x.offer(m));
        }
        int c = x.commit(0, true);
        E.is("9: a long commit", x.message(c), 9 + 14 * 13 + 1 + 7 + 2 + 4 * 3 + 1 + 3);
        E.is("9: taken by who is there", x.deliver(c, 1), 0);
        E.is("9: and by who made it", x.deliver(c, 0), 0);
        for (int m = 2; m < 16; m++) {
            E.is("9: all join", x.deliver(c + 1, m), 0);
            E.is("9: in the same epoch", x.member(m, 7), x.member(0, 7));
        }
        E.is("9: leaf 1 knows all above", x.member(1, 12), 5);
        E.is("9: leaf 15 knows the top", x.member(15, 12), 2);
        E.is("9: leaf 2 knows three nodes above", x.member(2, 12), 4);
        int d = x.commit(9, true);
        for (int m = 0; m < 16; m++) {
            E.is("9: a path from the other half", x.deliver(d, m), 0);
        }
        E.is("9: so all know the top", x.node(0, 15, 5) + x.node(15, 15, 5), 2);
    }

    private static void commitLimits() {
        KeyGroups y = group(2);
        y.propose(0, 1, y.offer(7));
        fillMessages(y, 298);
        E.is("9: the last place for both", y.commit(0, false), 298);
        E.is("9: both are there", y.count(1), 300);
        KeyGroups x = group(2);
        int p = x.offer(7);
        x.propose(0, 1, p);
        fillMessages(x, 299);
        E.state("9: no place for the welcome", () -> x.commit(0, false));
        E.is("9: nothing made", x.count(1), 299);
        E.is("9: nothing pending", x.member(0, 11), 0);
        E.is("9: without one", x.commit(1, false), 299);
        E.state("9: 300 messages", () -> x.commit(1, false));
        E.is("9: the pending one stays", x.member(1, 11), 1);
        E.index("9: no member comes first", () -> x.commit(24, false));
    }

    private static void commitPending() {
        KeyGroups x = group(2);
        int p = x.offer(7);
        x.propose(0, 1, p);
        int one = x.commit(0, false);
        int two = x.commit(0, false);
        E.is("9: without names the same signs", x.deliver(one, 0), 0);
        E.is("9: two came too late", x.deliver(two, 0), 2);
        int three = x.commit(0, true);
        int four = x.commit(0, true);
        E.is("9: another path", x.deliver(three, 0), 3);
        E.is("9: still pending", x.member(0, 11), 1);
        E.is("9: the last one", x.deliver(four, 0), 0);
        E.is("9: none pending", x.member(0, 11), 0);
    }

    // ---- promise 10 (DeliverTest has each answer)

    private static void deliver() {
        KeyGroups x = group(2);
        E.index("10: message -1", () -> x.deliver(-1, 0));
        E.index("10: no such message", () -> x.deliver(x.count(1), 0));
        E.index("10: member -1", () -> x.deliver(0, -1));
        E.index("10: member 24", () -> x.deliver(0, 24));
        E.is("10: a package to anyone", x.deliver(0, 23), 0);
        E.is("10: nothing changes", x.member(23, 10), 0);
        int empty = x.post();
        E.is("10: an empty message", x.deliver(empty, 0), 1);
    }

    private static void deliverChanges() {
        KeyGroups x = group(3);
        int u = x.propose(1, 2, 0);
        int oldKey = x.node(1, 2, 0);
        x.deliver(u, 0);
        x.deliver(u, 2);
        E.is("10: kept", x.member(2, 8), 1);
        x.propose(2, 3, 9);
        x.commit(2, true);
        int c = x.commit(0, false);
        E.is("10: taken", x.deliver(c, 2), 0);
        E.is("10: by who updates", x.deliver(c, 1), 0);
        E.is("10: done", x.deliver(c, 0), 0);
        E.is("10: proposals are forgotten", x.member(2, 8), 0);
        E.is("10: the pending commit, too", x.member(2, 11), 0);
        E.is("10: updates, too", x.member(1, 9), 0);
        E.is("10: a new key", x.node(1, 2, 0) != oldKey);
        E.is("10: with its secret", x.node(1, 2, 5), 1);
        for (int m = 1; m < 3; m++) {
            E.is("10: the same epoch", x.member(m, 7), x.member(0, 7));
            E.is("10: the same tree", x.member(m, 4), x.member(0, 4));
            E.is("10: the same INTERIM", x.member(m, 6), x.member(0, 6));
        }
        int r = x.propose(0, 3, 1);
        x.commit(1, true);
        x.deliver(r, 1);
        x.deliver(r, 2);
        int d = x.commit(2, true);
        E.is("10: who is removed", x.deliver(d, 1), 0);
        E.is("10: is out", x.member(1, 0), 0);
        E.is("10: has no tree", x.node(1, 0, 0), NONE);
        E.is("10: the others", x.deliver(d, 0) + x.deliver(d, 2), 0);
        E.is("10: a blank leaf", x.node(0, 2, 0), 0);
        x.create(1);
        E.is("10: it may make a group", x.member(1, 1), 0);
        E.is("10: where it has leaf 0", x.member(1, 2), 0);
        E.is("10: alone", x.member(1, 3), 0);
        E.is("10: without a CONFIRMED hash", x.member(1, 5), 0);
    }

    private static void leafZeroUnmerged() {
        KeyGroups x = group(3);
        x.propose(2, 3, 0);
        x.deliver(x.commit(2, true), 2);
        x.propose(2, 1, x.offer(9));
        int c = x.commit(2, false);
        x.deliver(c, 2);
        E.is("10: leaf 0 again", x.node(2, 0, 3), 9);
        E.is("10: unmerged at the top", x.node(2, 3, 2), 1);
        E.is("10: resolution", x.node(2, 3, 4), 2);
        E.is("10: its tree is sound", x.deliver(c + 1, 9), 0);
        int d = x.commit(2, true);
        E.is("10: sealed for leaf 0", x.deliver(d, 9), 0);
    }

    private static void updatesThatDoNotGo() {
        KeyGroups x = group(2);
        int u = x.propose(1, 2, 0);
        int updateSecret = x.term(termAt(x, u, 10), 1);
        int leafSecret = x.term(x.node(1, 2, 0), 1);
        E.is("10: an update that is not taken", x.deliver(x.commit(0, true), 1), 0);
        x.compromise(1);
        E.is("10: its secret is forgotten", !x.isKnown(updateSecret));
        E.is("10: that of the leaf is kept", x.isKnown(leafSecret));
        int v = x.propose(1, 2, 0);
        int w = x.propose(1, 2, 0);
        int second = x.term(termAt(x, w, 10), 1);
        int first = x.term(termAt(x, v, 10), 1);
        KeyGroups y = group(2);
        int a = y.propose(1, 2, 0);
        int b = y.propose(1, 2, 0);
        int one = y.term(termAt(y, a, 10), 1);
        int two = y.term(termAt(y, b, 10), 1);
        y.deliver(a, 0);
        E.is("10: the first one goes", y.deliver(y.commit(0, false), 1), 0);
        y.compromise(1);
        E.is("10: its secret is the leaf's", y.isKnown(one));
        E.is("10: the other is forgotten", !y.isKnown(two));
        x.compromise(1);
        E.is("10: both are kept as long as they may go", x.isKnown(first) && x.isKnown(second));
    }

    private static void treeGrowsAndShrinks() {
        KeyGroups x = group(5);
        E.is("10: eight leaves", x.member(0, 3), 3);
        int c = x.commit(4, true);
        for (int m = 0; m < 5; m++) {
            E.is("10: taken", x.deliver(c, m), 0);
        }
        E.is("10: nodes that do not count are blank", x.node(0, 9, 0), 0);
        E.is("10: the top counts", x.node(0, 7, 0) > 0);
        E.is("10: leaf 4 has the secret of it", x.node(4, 7, 5), 1);
        int p = x.offer(9);
        x.propose(0, 1, p);
        int a = x.commit(0, false);
        for (int m = 0; m < 5; m++) {
            E.is("10: taken", x.deliver(a, m), 0);
        }
        E.is("10: joins", x.deliver(a + 1, 9), 0);
        E.is("10: at leaf 5", x.member(9, 2), 5);
        E.is("10: unmerged at the top", x.node(0, 7, 2), 1);
        E.is("10: resolution of the top", x.node(0, 7, 4), 2);
        E.is("10: resolution of the right half", x.node(0, 11, 4), 2);
        int d = x.commit(0, true);
        E.is("10: unmerged, so sealed for its leaf", x.deliver(d, 9), 0);
        E.is("10: it has the top now", x.node(9, 7, 5), 1);
        for (int m = 0; m < 5; m++) {
            x.deliver(d, m);
        }
        E.is("10: nothing unmerged", x.node(0, 7, 2), 0);
        x.propose(0, 3, 4);
        x.propose(0, 3, 5);
        int e = x.commit(0, false);
        for (int m = 0; m < 5; m++) {
            x.deliver(e, m);
        }
        E.is("10: the right half is gone", x.member(0, 3), 2);
        E.is("10: no such node", x.node(0, 7, 0), NONE);
        E.is("10: all are there", x.member(3, 7), x.member(0, 7));
        x.propose(3, 3, 3);
        x.propose(3, 3, 2);
        x.propose(3, 3, 1);
        int f = x.commit(3, false);
        x.deliver(f, 3);
        E.is("10: who commits stays", x.member(3, 3), 2);
        E.is("10: with leaf 0", x.node(3, 0, 0) > 0);
        E.is("10: and its own", x.node(3, 6, 3), 3);
    }

    // ---- promise 11

    private static void post() {
        KeyGroups x = new KeyGroups();
        bytes(x, 7);
        x.place(1);
        E.is("11: number", x.post(), 0);
        E.is("11: the tape is empty", x.count(3), 0);
        E.is("11: its signs", x.message(0), 2);
        E.is("11: an empty one", x.post(), 1);
        E.is("11: has none", x.message(1), 0);
        int secret = x.term(2, 1);
        x.place(secret);
        x.post();
        E.is("11: what the intruder posts is not known by that", !x.isKnown(secret));
        fillMessages(x, 300);
        bytes(x, 1, 2, 3);
        E.state("11: 300", () -> x.post());
        E.is("11: the tape stays", x.count(3), 3);
    }

    // ---- promise 12

    private static void make() {
        KeyGroups x = new KeyGroups();
        int a = x.make(0, 99, -1);
        int b = x.make(0, 0, 0);
        E.is("12: a name", a, 26);
        E.is("12: another one", b, 27);
        bytes(x, 1, 2);
        int hash = x.make(1, -7, 99);
        E.is("12: the tape is empty", x.count(3), 0);
        signsOf(x, "12: HASH", hash, 1, 2);
        bytes(x, 1, 2);
        E.is("12: the same one of the same", x.make(1, 0, 0), hash);
        E.is("12: of nothing another", x.make(1, 0, 0) != hash);
        bytes(x, 5);
        int mac = x.make(2, a, 0);
        E.is("12: MAC", x.term(mac, 0) * 1000 + x.term(mac, 1), 2000 + a);
        signsOf(x, "12: MAC", mac, 5);
        x.place(x.term(2, 1));
        int derived = x.make(3, b, 9);
        E.is("12: DERIVED", x.term(derived, 0) * 1000 + x.term(derived, 1), 3000 + b);
        E.is("12: its label", x.term(derived, 2), 9);
        E.is("12: whatever signs are in it", x.isKnown(derived));
        bytes(x, 6);
        int mixed = x.make(4, a, b);
        E.is("12: the tape is not in it", x.count(3), 1);
        E.is("12: MIXED", x.term(mixed, 1) * 1000 + x.term(mixed, 2), 1000 * a + b);
        E.is("12: the other way round", x.make(4, b, a) != mixed);
        int key = x.make(5, a, 0);
        E.is("12: PUBLIC", x.term(key, 0) * 1000 + x.term(key, 1), 5000 + a);
        int sealed = x.make(6, key, b);
        E.is("12: SEALED", x.term(sealed, 1) * 1000 + x.term(sealed, 2), 1000 * key + b);
        E.is("12: nothing else in it", x.term(sealed, 3), 0);
        E.is("12: for a member", x.term(x.make(6, 2, 1), 1), 2);
        E.is("12: the tape stays", x.count(3), 1);
        int signed = x.make(7, a, 0);
        E.is("12: SIGNED", x.term(signed, 0) * 1000 + x.term(signed, 1), 7000 + a);
        signsOf(x, "12: SIGNED", signed, 6);
        E.is("12: all are known", x.count(2), x.count(0) - 1);
    }

    private static void makeWrong() {
        KeyGroups x = new KeyGroups();
        int a = x.make(0, 0, 0);
        int unknown = x.term(2, 1);
        E.index("12: sort -1", () -> x.make(-1, a, a));
        E.index("12: sort 8", () -> x.make(8, a, a));
        for (int sort = 2; sort <= 7; sort++) {
            int s = sort;
            E.index("12: a is not there", () -> x.make(s, 99, 1));
            E.index("12: a is 0", () -> x.make(s, 0, 1));
            E.index("12: a is not known", () -> x.make(s, unknown, 1));
        }
        E.index("12: b of MIXED is not known", () -> x.make(4, a, unknown));
        E.index("12: b of MIXED is not there", () -> x.make(4, a, 0));
        E.index("12: b of SEALED is not known", () -> x.make(6, 2, unknown));
        E.index("12: b ahead of what a is", () -> x.make(6, a, unknown));
        E.argument("12: a is no PUBLIC", () -> x.make(6, a, a));
        E.index("12: label 10", () -> x.make(3, a, 10));
        E.index("12: label -1", () -> x.make(3, a, -1));
        E.is("12: label 0", x.make(3, a, 0) > 0);
        E.is("12: b is not asked", x.make(5, a, 12345) > 0);
        for (int k = 0; k < 15; k++) {
            x.end(20);
        }
        E.is("12: 300 signs", x.make(1, 0, 0) > 0);
        for (int k = 0; k < 15; k++) {
            x.end(20);
        }
        x.end(1);
        E.argument("12: 301 in HASH", () -> x.make(1, 0, 0));
        E.argument("12: 301 in MAC", () -> x.make(2, a, 0));
        E.argument("12: 301 in DERIVED", () -> x.make(3, a, 0));
        E.argument("12: 301 in SIGNED", () -> x.make(7, a, 0));
        E.index("12: the label comes first", () -> x.make(3, a, 10));
        E.is("12: it stays", x.count(3), 301);
        E.is("12: not in a NAME", x.make(0, 0, 0) > 0);
        E.is("12: it stays", x.count(3), 301);
    }

    // ---- promises 13 and 14

    private static void compromise() {
        KeyGroups x = new KeyGroups();
        E.index("13: -1", () -> x.compromise(-1));
        E.index("13: 24", () -> x.compromise(24));
        E.is("13: known", x.compromise(0), 25);
        int secret = x.term(2, 1);
        E.is("13: the signature secret", x.isKnown(secret));
        E.is("13: counts", x.compromise(0), 26);
        int other = x.term(3, 1);
        E.is("13: not of another", !x.isKnown(other));
        int p = x.offer(1);
        int init = x.term(termAt(x, p, 1), 1);
        int leaf = x.term(termAt(x, p, 4), 1);
        int before = x.count(2);
        E.is("13: two secrets of the package and that of signatures", x.compromise(1), before + 3);
        E.is("13: of the init key", x.isKnown(init));
        E.is("13: of the leaf", x.isKnown(leaf));
        int q = x.offer(1);
        E.is("13: not what it keeps later", !x.isKnown(x.term(termAt(x, q, 1), 1)));
    }

    private static void compromiseHeals() {
        KeyGroups x = group(3);
        x.compromise(1);
        int secret = x.member(1, 7);
        E.is("13: EPOCH SECRET", x.isKnown(secret));
        int p = x.offer(9);
        x.propose(0, 1, p);
        int c = x.commit(0, false);
        x.deliver(c, 0);
        x.deliver(c, 1);
        int next = x.member(0, 7);
        E.is("13: without a path the next one, too", x.isKnown(next));
        int d = x.commit(0, true);
        x.deliver(d, 0);
        x.deliver(d, 1);
        E.is("13: a path of another is open to it", x.isKnown(x.member(0, 7)));
        int e = x.commit(1, true);
        x.deliver(e, 0);
        x.deliver(e, 1);
        E.is("13: its own path heals", !x.isKnown(x.member(0, 7)));
        int f = x.commit(0, true);
        E.is("13: and those behind", x.deliver(f, 1), 0);
        E.is("13: are not known", !x.isKnown(x.member(1, 7)));
        x.compromise(1);
        E.is("13: now", x.isKnown(x.member(1, 7)));
        KeyGroups y = group(2);
        int old = y.member(0, 7);
        y.deliver(y.commit(0, true), 0);
        y.compromise(0);
        E.is("13: what is forgotten is not told", !y.isKnown(old));
    }

    private static void compromiseKeeps() {
        KeyGroups x = group(2);
        int u = x.propose(0, 2, 0);
        int updateSecret = x.term(termAt(x, u, 10), 1);
        int c = x.commit(0, true);
        int leafSecret = x.term(termAt(x, c, 12), 1);
        int nodeSecret = x.term(termAt(x, c, 19), 1);
        int pathSecret = x.term(nodeSecret, 1);
        int confirmation = termAt(x, c, x.message(c) - 2);
        int pendingSecret = x.term(x.term(confirmation, 1), 1);
        int ownSecret = x.term(x.node(0, 0, 0), 1);
        int[] kept = {updateSecret, leafSecret, nodeSecret, pendingSecret, ownSecret, x.member(0, 7)};
        for (int k = 0; k < kept.length; k++) {
            E.is("13: not known yet " + k, !x.isKnown(kept[k]));
        }
        x.compromise(0);
        for (int k = 0; k < kept.length; k++) {
            E.is("13: kept " + k, x.isKnown(kept[k]));
        }
        E.is("13: the path secret is not kept", !x.isKnown(pathSecret));
        E.is("13: but sealed for member 1", x.term(termAt(x, c, 22), 2), pathSecret);
        x.compromise(1);
        E.is("13: who can open it", x.isKnown(pathSecret));
    }

    private static void isKnown() {
        KeyGroups x = new KeyGroups();
        E.is("14: ZERO", x.isKnown(1));
        E.is("14: 0", !x.isKnown(0));
        E.is("14: -1", !x.isKnown(-1));
        E.is("14: 26", !x.isKnown(26));
        E.is("14: the greatest int", !x.isKnown(Integer.MAX_VALUE));
        x.create(0);
        E.is("14: every HASH", x.isKnown(x.member(0, 4)) && x.isKnown(x.member(0, 6)));
        E.is("14: no EPOCH SECRET", !x.isKnown(x.member(0, 7)));
        bytes(x, 1);
        int hash = x.make(1, 0, 0);
        int key = x.make(5, hash, 0);
        int sealed = x.make(6, key, 1);
        E.is("14: made", x.isKnown(key) && x.isKnown(sealed));
    }

    // ---- promises 15 to 21

    private static void term() {
        KeyGroups x = new KeyGroups();
        for (int what = 0; what <= 4; what++) {
            E.is("15: ZERO", x.term(1, what), 0);
            E.is("15: no term 0", x.term(0, what), NONE);
            E.is("15: no term 26", x.term(26, what), NONE);
        }
        E.is("15: what -1", x.term(1, -1), NONE);
        E.is("15: what 5", x.term(1, 5), NONE);
        E.is("15: tells nothing", x.count(0), 25);
        E.is("15: PUBLIC", x.term(25, 0), 5);
        E.is("15: of", x.term(25, 1), 26);
        E.is("15: told once", x.term(25, 1), 26);
        E.is("15: no second", x.term(25, 2), 0);
        E.is("15: no third", x.term(25, 3), 0);
        E.is("15: of no signs", x.term(25, 4), 0);
        x.end(5);
        int derived = x.make(3, 1, 7);
        E.is("15: label", x.term(derived, 2), 7);
        E.is("15: signs", x.term(derived, 4), 5);
        E.is("15: no third", x.term(derived, 3), 0);
        int hash = x.make(1, 0, 0);
        E.is("15: HASH has no first", x.term(hash, 1), 0);
        KeyGroups y = group(2);
        int sealed = termAt(y, 3, 4);
        E.is("15: SEALED", y.term(sealed, 0), 6);
        E.is("15: PUBLIC of it", y.term(y.term(sealed, 1), 0), 5);
        E.is("15: first in it", y.term(y.term(sealed, 2), 0), 4);
        E.is("15: second in it", y.term(y.term(sealed, 3), 0), 0);
        E.is("15: no signs", y.term(sealed, 4), 0);
    }

    private static void ofTerm() {
        KeyGroups x = new KeyGroups();
        bytes(x, 255, 0);
        x.place(25);
        int mac = x.make(2, 1, 0);
        E.is("16: byte", x.ofTerm(mac, 0), 255);
        E.is("16: byte", x.ofTerm(mac, 1), 0);
        E.is("16: term", x.ofTerm(mac, 2), 256 + 25);
        E.is("16: k 3", x.ofTerm(mac, 3), NONE);
        E.is("16: k -1", x.ofTerm(mac, -1), NONE);
        E.is("16: no term", x.ofTerm(99, 0), NONE);
        E.is("16: term 0", x.ofTerm(0, 0), NONE);
        E.is("16: of no signs", x.ofTerm(1, 0), NONE);
    }

    private static void messageAndSign() {
        KeyGroups x = new KeyGroups();
        E.is("17: none", x.message(0), NONE);
        E.is("17: -1", x.message(-1), NONE);
        x.offer(0);
        E.is("17: length", x.message(0), 9);
        E.is("17: no other", x.message(1), NONE);
        E.is("18: byte", x.sign(0, 0), 1);
        E.is("18: term", x.sign(0, 1), 256 + 26);
        E.is("18: told once", x.sign(0, 1), 256 + 26);
        E.is("18: signature key", x.sign(0, 5), 256 + 2);
        E.is("18: k 9", x.sign(0, 9), NONE);
        E.is("18: k -1", x.sign(0, -1), NONE);
        E.is("18: no message", x.sign(1, 0), NONE);
        E.is("18: message -1", x.sign(-1, 0), NONE);
        E.is("18: one term was told", x.count(0), 26);
    }

    private static void member() {
        KeyGroups x = group(2);
        int[] out = {0, NONE, NONE, NONE, NONE, NONE, NONE, NONE, 0, 0, 0, 0, 0};
        for (int what = 0; what < out.length; what++) {
            E.is("19: out, what " + what, x.member(9, what), out[what]);
            E.is("19: no member -1", x.member(-1, what), NONE);
            E.is("19: no member 24", x.member(24, what), NONE);
        }
        E.is("19: what -1", x.member(0, -1), NONE);
        E.is("19: what 13", x.member(0, 13), NONE);
        E.is("19: what 13, out", x.member(9, 13), NONE);
        E.is("19: in", x.member(1, 0), 1);
        E.is("19: epoch", x.member(1, 1), 1);
        E.is("19: leaf", x.member(1, 2), 1);
        E.is("19: D", x.member(1, 3), 1);
        E.is("19: tree hash", x.term(x.member(1, 4), 0), 1);
        E.is("19: CONFIRMED", x.term(x.member(1, 5), 0), 1);
        E.is("19: INTERIM", x.term(x.member(1, 6), 0), 1);
        E.is("19: EPOCH SECRET", x.term(x.member(1, 7), 0), 3);
        E.is("19: two secrets", x.member(1, 12), 2);
        x.propose(1, 2, 0);
        x.propose(1, 3, 0);
        x.offer(1);
        x.commit(1, true);
        E.is("19: proposals", x.member(1, 8), 2);
        E.is("19: updates", x.member(1, 9), 1);
        E.is("19: packages", x.member(1, 10), 1);
        E.is("19: pending", x.member(1, 11), 1);
        x.offer(9);
        E.is("19: packages of who is out", x.member(9, 10), 1);
    }

    private static void node() {
        KeyGroups x = group(3);
        for (int what = 0; what <= 5; what++) {
            E.is("20: out", x.node(9, 0, what), NONE);
            E.is("20: no member", x.node(24, 0, what), NONE);
            E.is("20: member -1", x.node(-1, 0, what), NONE);
            E.is("20: node -1", x.node(0, -1, what), NONE);
            E.is("20: node 7", x.node(0, 7, what), NONE);
        }
        E.is("20: what -1", x.node(0, 0, -1), NONE);
        E.is("20: what 6", x.node(0, 0, 6), NONE);
        E.is("20: key", x.term(x.node(0, 3, 0), 0), 5);
        E.is("20: the top has no parent hash", x.node(0, 3, 1), 0);
        E.is("20: node 1 has one", x.term(x.node(0, 1, 1), 0), 1);
        E.is("20: a leaf of a commit, too", x.term(x.node(0, 0, 1), 0), 1);
        E.is("20: a leaf of a package has none", x.node(0, 2, 1), 0);
        E.is("20: a node has no member", x.node(0, 3, 3), NONE);
        E.is("20: a leaf has", x.node(0, 4, 3), 2);
        E.is("20: a blank leaf has not", x.node(0, 6, 3), NONE);
        E.is("20: a blank leaf's key", x.node(0, 6, 0), 0);
        E.is("20: its parent hash", x.node(0, 6, 1), 0);
        E.is("20: its resolution", x.node(0, 6, 4), 0);
        E.is("20: a blank node's key", x.node(0, 5, 0), 0);
        E.is("20: its resolution", x.node(0, 5, 4), 1);
        E.is("20: a node's resolution", x.node(0, 3, 4), 1);
        E.is("20: a leaf's secret", x.node(1, 2, 5), 1);
        E.is("20: not that of another", x.node(1, 0, 5), 0);
        E.is("20: of the node above", x.node(1, 1, 5), 1);
        E.is("20: who is not below it has it not", x.node(2, 1, 5), 0);
        E.is("20: but that of the top", x.node(2, 3, 5), 1);
        int p = x.offer(9);
        x.propose(0, 1, p);
        x.deliver(x.commit(0, false), 0);
        E.is("20: unmerged", x.node(0, 3, 2), 1);
        E.is("20: not where it is not below", x.node(0, 1, 2), 0);
        E.is("20: resolution with it", x.node(0, 3, 4), 2);
    }

    private static void count() {
        KeyGroups x = group(2);
        E.is("21: terms", x.count(0), 25);
        E.is("21: messages", x.count(1), 4);
        E.is("21: known", x.count(2), 25);
        x.end(4);
        E.is("21: tape", x.count(3), 4);
        E.is("21: what -1", x.count(-1), NONE);
        E.is("21: what 4", x.count(4), NONE);
        int secret = x.member(0, 7);
        E.is("21: told, so counted", x.count(0), 26);
        E.is("21: but not known", x.count(2), 25);
        x.compromise(0);
        E.is("21: known then", x.count(2), 26);
        E.is("21: its number", secret, 26);
    }

    private static void numbers() {
        KeyGroups x = group(2);
        E.is("numbers: node first", x.node(0, 1, 0), 26);
        E.is("numbers: member then", x.member(0, 4), 27);
        E.is("numbers: the same term", x.node(1, 1, 0), 26);
        E.is("numbers: parent hash", x.node(0, 0, 1), 28);
        E.is("numbers: sign", x.sign(0, 8), 256 + 29);
        E.is("numbers: byte tells none", x.sign(0, 0), 1);
        E.is("numbers: term", x.term(2, 1), 30);
        E.is("numbers: of SIGNED the same", x.term(29, 1) != 30);
        E.is("numbers: so it was another", x.count(0), 31);
    }
}
