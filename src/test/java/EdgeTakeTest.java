import java.util.ArrayList;
import java.util.List;
import java.util.function.Consumer;

/**
 * Answers 2 to 15 of what is delivered: which comes first where two hold, what a refused message
 * leaves as it was, and the boundary cases of proposals, paths, trees and epochs that only forged
 * messages reach. Each test has a new object; the class is asked side by side with the model.
 */
public final class EdgeTakeTest {
    private static final Expect E = new Expect();
    private static final Consumer<Forger.PathParts> SAME = x -> { };
    private static final List<Object> NOTHING = List.of();

    public static void main(String[] args) {
        epochsAhead();
        proposalOrder();
        commitOrder();
        welcomeOrder();
        refusedProposals();
        refusedCommits();
        refusedWelcomes();
        proposalsKept();
        proposalsRight();
        fullGroup();
        pathLeaves();
        opening();
        welcomeSmall();
        welcomeLarge();
        welcomeLeaves();
        welcomeSenders();
        soundTrees();
        epochs();
        longRows();
        E.finish();
    }

    // ---- frames

    private interface Scene {
        void play(Forger f);
    }

    private static void scene(String what, Forger f, Scene scene) {
        try {
            scene.play(f);
        } catch (Pair.Differs e) {
            E.is(what + ": " + e.getMessage(), false);
        } catch (Pair.Unforgeable e) {
            E.is(what + ": can't be forged", false);
        }
        E.is(what + ": keeps within 512 calls", f.p.log.size() <= 512);
    }

    /** In a group of four, all of whom the intruder has seen into. */
    private static void inGroup(String what, Scene scene) {
        Forger f = Forger.group(4);
        f.compromiseAll();
        scene(what, f, scene);
    }

    /** One message, which a reader in a group of four answers so. */
    private interface Signs {
        List<Object> of(Forger f);
    }

    private static void answer(String what, int reader, int want, Signs signs) {
        inGroup(what, f -> E.is(what, f.deliver(signs.of(f), reader), want));
    }

    /** What can be asked of a member and its tree. */
    private static List<Long> picture(Pair p, int who) {
        List<Long> seen = new ArrayList<>();
        for (int what = 0; what <= 12; what++) {
            seen.add(p.member(who, what));
        }
        for (int n = 0; n < 7; n++) {
            for (int what = 0; what <= 5; what++) {
                seen.add(p.node(who, n, what));
            }
        }
        return seen;
    }

    /** A message that is refused leaves all that can be asked of its reader as it was. */
    private static void refused(String what, int reader, int want, Signs signs) {
        inGroup(what, f -> refused(what, f, reader, want, signs.of(f)));
    }

    private static void refused(String what, Forger f, int reader, int want, List<Object> signs) {
        int message = f.p.forge(signs);
        List<Long> before = picture(f.p, reader);
        E.is(what, f.p.deliver(message, reader), want);
        E.is(what + ": all as it was", picture(f.p, reader).equals(before));
    }

    // ---- parts

    private static List<Object> remove(int leaf) {
        return Forger.byContent(Forger.remove(leaf));
    }

    private static List<Object> add(List<Object> pack) {
        return Forger.byContent(Forger.add(pack));
    }

    /** A COMMIT of nothing by leaf 2 for member 0, with a PATH that is changed. */
    private static List<Object> withPath(Forger f, Consumer<Forger.PathParts> first, Consumer<Forger.PathParts> then) {
        return f.commit(0, 2, NOTHING, f.path(0, 2, NOTHING, first, then));
    }

    /** A COMMIT with another tag. */
    private static List<Object> wrongTag(Forger f, List<Object> commit) {
        return Forger.with(commit, -1, f.m.mac(f.m.zero, List.of(9)));
    }

    /** A COMMIT by leaf 2 with a signature that is not right, and a tag that is or is not. */
    private static List<Object> signedBy(Forger f, int who, boolean tag) {
        List<Object> c = f.commit(0, 2, NOTHING, f.path(0, 2, NOTHING));
        int n = c.size();
        List<Object> s = new ArrayList<>(c.subList(0, n - 3));
        s.add(f.m.signed(f.secretOf(who), Model.plus(s, f.m.context(f.state(0)))));
        s.add(c.get(n - 2));
        s.add(tag ? f.m.mac(f.m.membership(f.state(0)), s) : f.m.mac(f.m.zero, List.of()));
        return s;
    }

    // ---- which comes first

    private static void epochsAhead() {
        answer("1 ahead of 2: a PROPOSAL of another epoch with a SIGN too much", 0, 1, f ->
            Model.plus(Forger.with(f.proposal(0, 1, Forger.remove(2)), 4, 99), List.of(0)));
        answer("1 ahead of 2: a WELCOME to who is IN, with a SIGN too much", 0, 1, f ->
            Model.plus(f.m.messages.get(3), List.of(0)));
        answer("2 ahead of 3: a PROPOSAL of another epoch, of no leaf", 0, 2, f ->
            Forger.with(Forger.with(f.proposal(0, 1, Forger.remove(2)), 4, 99), 6, 9));
        answer("2 ahead of 3: a COMMIT of another epoch, of no leaf", 0, 2, f ->
            Forger.with(Forger.with(f.commitEnd(0, f.commitHead(0, 2, NOTHING, null)), 4, 99), 6, 9));
        answer("2 ahead of its own: a COMMIT of another epoch, of its leaf", 0, 2, f ->
            Forger.with(Forger.with(f.commitEnd(0, f.commitHead(0, 2, NOTHING, null)), 4, 99), 6, 0));
        for (int at = 1; at <= 4; at++) {
            int k = at;
            answer("another epoch, byte " + k + " of a PROPOSAL", 0, 2, f -> {
                List<Object> s = f.proposal(0, 1, Forger.remove(2));
                return Forger.with(s, k, (Integer) s.get(k) + 1);
            });
            answer("another epoch, byte " + k + " of a COMMIT", 0, 2, f -> {
                List<Object> s = f.commitEnd(0, f.commitHead(0, 2, NOTHING, null));
                return Forger.with(s, k, (Integer) s.get(k) + 1);
            });
        }
        answer("the epoch before", 0, 2, f -> {
            List<Object> s = f.proposal(0, 1, Forger.remove(2));
            return Forger.with(s, 4, (Integer) s.get(4) - 1);
        });
    }

    private static void proposalOrder() {
        answer("3 ahead of 4: no leaf, and the signature is not right", 0, 3, f ->
            Forger.with(f.proposal(0, 1, Forger.remove(2)), 6, 5));
        answer("3 ahead of 4: its own leaf, and the signature is right", 0, 3, f ->
            f.proposal(0, 0, Forger.remove(2)));
        answer("4 ahead of 5: neither signature nor tag", 0, 4, f ->
            Forger.with(f.proposal(0, 1, Forger.remove(2)), 9, 3));
        answer("4 ahead of 5: an ADD's PACKAGE, and the tag", 0, 4, f -> {
            List<Object> pack = f.pack(9);
            List<Object> bad = Forger.with(pack, 8, f.m.signed(f.secretOf(8), pack.subList(0, 8)));
            return wrongTag(f, f.proposal(0, 1, Forger.add(bad)));
        });
        answer("4: an ADD's PACKAGE, its LEAF alone", 0, 4, f -> {
            Model.Leaf leaf = f.m.signLeaf(new Model.Leaf(9, f.m.pub(f.p.forgedName()), f.m.signatureKey[9], 1,
                    null, null), 0, f.secretOf(8));
            return f.proposal(0, 1, Forger.add(f.m.packSigns(f.m.pub(f.p.forgedName()), leaf, f.secretOf(9))));
        });
        answer("4 ahead of 5: an UPDATE's LEAF, and the tag", 0, 4, f ->
            wrongTag(f, f.proposal(0, 1, Forger.update(f.freshUpdate(1, 2)))));
        answer("5: the tag alone", 0, 5, f -> wrongTag(f, f.proposal(0, 1, Forger.remove(2))));
        answer("5: the tag of who has another leaf is no other tag", 0, 0, f -> f.proposal(1, 2, Forger.remove(1)));
        answer("4: member 23 is there", 0, 0, f -> f.pack(23));
        answer("4: member 24 is not", 0, 4, f -> f.m.packSigns(f.m.pub(f.p.forgedName()),
                f.m.signLeaf(new Model.Leaf(24, f.m.pub(f.p.forgedName()), f.m.signatureKey[23], 1, null, null), 0,
                        f.secretOf(23)), f.secretOf(23)));
        answer("4: member 65535 is not", 0, 4, f -> f.m.packSigns(f.m.pub(f.p.forgedName()),
                f.m.signLeaf(new Model.Leaf(65535, f.m.pub(f.p.forgedName()), f.m.signatureKey[0], 1, null, null), 0,
                        f.secretOf(0)), f.secretOf(0)));
        answer("4: just those SIGNS, not the leaf's number with SOURCE 1", 0, 4, f -> {
            Model.Leaf ahead = new Model.Leaf(9, f.m.pub(f.p.forgedName()), f.m.signatureKey[9], 1, null, null);
            Model.T signature = f.m.signed(f.secretOf(9), Model.plus(Model.leafAhead(ahead), List.of(0, 0)));
            Model.Leaf leaf = new Model.Leaf(9, ahead.key(), ahead.signatureKey(), 1, null, signature);
            return f.m.packSigns(f.m.pub(f.p.forgedName()), leaf, f.secretOf(9));
        });
        answer("4: just those SIGNS, with SOURCE 2 the leaf's number", 0, 4, f -> {
            Model.Leaf ahead = new Model.Leaf(1, f.m.pub(f.p.forgedName()), f.m.signatureKey[1], 2, null, null);
            Model.T signature = f.m.signed(f.secretOf(1), Model.leafAhead(ahead));
            return f.proposal(0, 1, Forger.update(new Model.Leaf(1, ahead.key(), ahead.signatureKey(), 2, null,
                    signature)));
        });
    }

    private static void commitOrder() {
        answer("3 ahead of 4: a COMMIT of no leaf, not signed", 0, 3, f ->
            Forger.with(signedBy(f, 1, false), 6, 4));
        answer("4 ahead of 5: a COMMIT with neither", 0, 4, f -> signedBy(f, 1, false));
        answer("4: a COMMIT with its tag", 0, 4, f -> signedBy(f, 1, true));
        inGroup("5 ahead of 6: a tag, and a PROPOSAL that it has not", f -> {
            List<Object> byHash = f.byHash((int) f.p.propose(1, 2, 0));
            List<Object> c = f.commit(0, 2, byHash, f.path(0, 2, NOTHING));
            E.is("5 ahead of 6", f.deliver(wrongTag(f, c), 0), 5);
            E.is("6", f.deliver(c, 0), 6);
        });
        answer("6 ahead of 7, the HASH behind what is not right", 0, 6, f ->
            f.commit(0, 2, Forger.join(remove(2), Forger.signs(1, f.m.hash(NOTHING))), null));
        answer("6 ahead of 7, the HASH behind a REMOVE of no leaf", 0, 6, f ->
            f.commit(0, 2, Forger.join(remove(9), Forger.signs(1, f.m.hash(NOTHING))), null));
        answer("6 ahead of 7, the HASH behind an ADD that is not signed", 0, 6, f ->
            f.commit(0, 2, Forger.join(add(Forger.with(f.pack(9), 3, 8)), Forger.signs(1, f.m.hash(NOTHING))), null));
        answer("6 ahead of 7, the HASH behind an UPDATE by CONTENT", 0, 6, f -> f.commit(0, 2, Forger.join(
                Forger.byContent(Forger.update(f.freshUpdate(2, 2))), Forger.signs(1, f.m.hash(NOTHING))), null));
        answer("6 ahead of 7, the HASH ahead of what is not right", 0, 6, f ->
            f.commit(0, 2, Forger.join(Forger.signs(1, f.m.hash(NOTHING)), remove(2)), null));
        answer("7 ahead of 8: a REMOVE of who commits, without a PATH", 0, 7, f -> f.commit(0, 2, remove(2), null));
        answer("8 ahead of 9: another number of nodes, and the LEAF", 0, 8, f -> withPath(f, SAME, x -> {
            x.sealed.remove(1);
            x.parentHash = null;
            x.member = 1;
        }));
        answer("8 ahead of 9: another number of SEALED, and the LEAF", 0, 8, f -> withPath(f, SAME, x -> {
            x.sealed.get(1).remove(0);
            x.parentHash = null;
        }));
        answer("9 ahead of 10: the LEAF, and a SEALED", 0, 9, f -> withPath(f, SAME, x -> {
            x.parentHash = null;
            x.sealed.get(1).set(0, f.m.sealed(f.m.signatureKey[0], x.secrets.get(1)));
        }));
        answer("10 ahead of 11: a SEALED, and a key", 0, 10, f -> withPath(f,
                x -> x.keys.set(1, f.m.pub(f.p.forgedName())),
                x -> x.sealed.get(1).set(0, f.m.sealed(f.m.signatureKey[0], x.secrets.get(1)))));
        answer("11 ahead of 12: a key, and the confirmation", 0, 11, f -> f.commitEnd(0, f.commitHead(0, 2, NOTHING,
                f.path(0, 2, NOTHING, x -> x.keys.set(1, f.m.pub(f.p.forgedName())), SAME))));
        answer("12: the confirmation alone", 0, 12, f ->
            f.commitEnd(0, f.commitHead(0, 2, NOTHING, f.path(0, 2, NOTHING))));
        answer("12: the confirmation, without a PATH", 0, 12, f ->
            f.commitEnd(0, f.commitHead(0, 2, add(f.pack(9)), null)));
        inGroup("8, 9 ahead of who is REMOVED is OUT", f -> {
            E.is("8", f.deliver(f.commit(0, 2, remove(0), f.path(0, 2, remove(0), SAME,
                    x -> x.sealed.remove(0))), 0), 8);
            E.is("it is IN", f.p.member(0, 0), 1);
        });
        inGroup("who is REMOVED is OUT: 0 ahead of 10 and 11", f -> {
            List<Object> path = f.path(0, 2, remove(0), x -> x.keys.set(1, f.m.pub(f.p.forgedName())),
                    x -> x.sealed.get(1).set(0, f.m.sealed(f.m.signatureKey[0], x.secrets.get(1))));
            List<Object> c = f.commitEnd(0, f.commitHead(0, 2, remove(0), path));
            E.is("for who stays", f.deliver(c, 1), 10);
            E.is("for who is REMOVED", f.deliver(c, 0), 0);
            E.is("it is OUT", f.p.member(0, 0), 0);
        });
    }

    /** The WELCOME of member 9, whom member 3 adds. */
    private static List<Object> welcome(Forger f, boolean path) {
        int pack = (int) f.p.offer(9);
        f.p.propose(3, 1, pack);
        List<Object> w = f.m.messages.get((int) f.p.commit(3, path) + 1);
        f.p.compromise(9);
        return w;
    }

    private static int infoOf(Forger f, List<Object> w) {
        return f.m.new Reading(w).welcome().infoStart();
    }

    private static List<Object> signedAgain(Forger f, List<Object> w, int who) {
        return Forger.with(w, -1, f.m.signed(f.secretOf(who), w.subList(infoOf(f, w), w.size() - 1)));
    }

    private static void welcomeOrder() {
        answer("2 ahead of 13: a WELCOME for others, to who is IN", 0, 2, f -> welcome(f, false));
        answer("13 ahead of 14: for none of its PACKAGES, and the tree hash", 10, 13, f -> {
            List<Object> w = welcome(f, false);
            return Forger.with(w, infoOf(f, w) + 4, f.m.hash(NOTHING));
        });
        answer("13 ahead of 14: it can't be opened, and the tree hash", 9, 13, f -> {
            List<Object> w = Forger.with(welcome(f, false), 4, f.m.sealed(f.m.signatureKey[9], f.m.zero));
            return Forger.with(w, infoOf(f, w) + 4, f.m.hash(NOTHING));
        });
        answer("13: a WELCOME for nobody", 9, 13, f -> {
            List<Object> w = welcome(f, false);
            return Model.plus(List.of(4, 0, 0), w.subList(5, w.size()));
        });
        answer("14 ahead of 15: the tree is another one, and not SOUND", 9, 14, f -> {
            List<Object> w = welcome(f, false);
            int leaf = infoOf(f, w) + 10;
            return Forger.with(w, leaf + 2, 7);
        });
        answer("15 ahead of 4: its LEAF is missing, and another signs", 9, 15, f -> {
            Model.State st = new Model.State();
            st.tree = f.state(0).tree.copy();
            return forged(f, st, 0, 1, null);
        });
        answer("4 ahead of 12: another signs, and the confirmation", 9, 4, f ->
            signedAgain(f, Forger.with(welcome(f, false), -2, f.m.mac(f.m.zero, NOTHING)), 1));
        answer("12 ahead of 11: the confirmation, and a path secret of no node", 9, 12, f -> {
            List<Object> w = welcome(f, true);
            List<Object> moved = Forger.with(w, infoOf(f, w) + 7, 4);
            return signedAgain(f, Forger.with(moved, -2, f.m.mac(f.m.zero, NOTHING)), 9);
        });
        answer("11: a path secret of another node", 9, 11, f -> {
            List<Object> w = welcome(f, true);
            E.is("from leaf 3", (Integer) w.get(infoOf(f, w) + 7), 3);
            List<Object> own = Forger.with(w, infoOf(f, w) + 7, 4);
            return signedAgain(f, own, 9);
        });
        answer("11: from another leaf of the same half it is the same node", 9, 0, f -> {
            List<Object> w = welcome(f, true);
            return signedAgain(f, Forger.with(w, infoOf(f, w) + 7, 0), 0);
        });
    }

    // ---- what a refused message leaves as it was

    private static void refusedProposals() {
        refused("a PROPOSAL, 1", 0, 1, f -> f.proposal(0, 1, Forger.signs(3)));
        refused("a PROPOSAL, 2", 0, 2, f -> Forger.with(f.proposal(0, 1, Forger.remove(2)), 4, 99));
        refused("a PROPOSAL, 3", 0, 3, f -> f.proposal(0, 0, Forger.remove(2)));
        refused("a PROPOSAL, 4", 0, 4, f -> Forger.with(f.proposal(0, 1, Forger.remove(2)), 9, 3));
        refused("a PROPOSAL, 5", 0, 5, f -> wrongTag(f, f.proposal(0, 1, Forger.remove(2))));
        refused("a PACKAGE, 0: nothing changes", 0, 0, f -> f.pack(0));
        refused("a PACKAGE, 4: nothing changes", 0, 4, f -> Forger.with(f.pack(0), 3, 1));
        refused("a PROPOSAL that it has: 0, and nothing changes", 0, 0, f -> {
            List<Object> s = f.proposal(0, 1, Forger.remove(2));
            f.deliver(s, 0);
            return s;
        });
    }

    private static void refusedCommits() {
        refused("a COMMIT, 3", 0, 3, f -> Forger.with(signedBy(f, 2, true), 6, 0));
        refused("a COMMIT, 4", 0, 4, f -> signedBy(f, 1, true));
        refused("a COMMIT, 5", 0, 5, f -> wrongTag(f, f.commit(0, 2, NOTHING, f.path(0, 2, NOTHING))));
        refused("a COMMIT, 6", 0, 6, f -> f.commit(0, 2, Forger.signs(1, f.m.hash(NOTHING)), null));
        refused("a COMMIT, 7", 0, 7, f -> f.commit(0, 2, remove(2), null));
        refused("a COMMIT, 8", 0, 8, f -> f.commit(0, 2, remove(1), null));
        refused("a COMMIT, 9", 0, 9, f -> withPath(f, SAME, x -> x.parentHash = null));
        refused("a COMMIT, 10", 0, 10, f -> withPath(f, SAME,
                x -> x.sealed.get(1).set(0, f.m.sealed(f.m.signatureKey[0], x.secrets.get(1)))));
        refused("a COMMIT, 11", 0, 11, f -> withPath(f, x -> x.keys.set(1, f.m.pub(f.p.forgedName())), SAME));
        refused("a COMMIT, 12", 0, 12, f -> f.commitEnd(0, f.commitHead(0, 2, NOTHING, f.path(0, 2, NOTHING))));
        refused("a COMMIT of a REMOVE of another, 12", 0, 12, f ->
            f.commitEnd(0, f.commitHead(0, 2, remove(1), f.path(0, 2, remove(1)))));
        inGroup("with all that a member can keep", f -> {
            f.p.offer(0);
            f.p.propose(0, 2, 0);
            f.p.commit(0, true);
            refused("a COMMIT, 12, to who keeps much", f, 0, 12,
                    f.commitEnd(0, f.commitHead(0, 2, NOTHING, f.path(0, 2, NOTHING))));
            E.is("the PENDING COMMIT is done", f.p.deliver((int) f.p.count(1) - 2, 0), 0);
        });
    }

    private static void refusedWelcomes() {
        refused("a WELCOME, 2", 0, 2, f -> welcome(f, false));
        refused("a WELCOME, 13", 9, 13, f -> Forger.with(welcome(f, false), 4, f.m.sealed(f.m.signatureKey[9], f.m.zero)));
        refused("a WELCOME, 14", 9, 14, f -> {
            List<Object> w = welcome(f, false);
            return Forger.with(w, infoOf(f, w) + 4, f.m.hash(NOTHING));
        });
        refused("a WELCOME, 15", 9, 15, f -> {
            Model.State st = new Model.State();
            st.tree = f.state(0).tree.copy();
            return forged(f, st, 0, 0, null);
        });
        refused("a WELCOME, 4", 9, 4, f -> signedAgain(f, welcome(f, false), 1));
        refused("a WELCOME, 12", 9, 12, f ->
            signedAgain(f, Forger.with(welcome(f, false), -2, f.m.mac(f.m.zero, NOTHING)), 3));
        refused("a WELCOME, 11", 9, 11, f -> {
            List<Object> w = welcome(f, true);
            return signedAgain(f, Forger.with(w, infoOf(f, w) + 7, 4), 9);
        });
        inGroup("a WELCOME that was refused, and then the right one", f -> {
            List<Object> w = welcome(f, true);
            E.is("11", f.deliver(signedAgain(f, Forger.with(w, infoOf(f, w) + 7, 4), 9), 9), 11);
            E.is("0", f.deliver(w, 9), 0);
            E.is("its leaf and the top", f.p.member(9, 12), 2);
        });
    }

    // ---- proposals

    private static void proposalsKept() {
        inGroup("all else of it is asked in the COMMIT, 7: a REMOVE of a leaf that is not there", f -> {
            for (int leaf : new int[] {4, 16, 256, 65535}) {
                int message = f.p.forge(f.proposal(0, 1, Forger.remove(leaf)));
                E.is("kept: leaf " + leaf, f.p.deliver(message, 0), 0);
                E.is("7: leaf " + leaf, f.deliver(f.commit(0, 2, f.byHash(message), null), 0), 7);
            }
            E.is("all are kept", f.p.member(0, 8), 4);
        });
        inGroup("all else of it is asked in the COMMIT, 7: an ADD of a member that is there", f -> {
            int message = f.p.forge(f.proposal(0, 1, Forger.add(f.pack(3))));
            E.is("kept", f.p.deliver(message, 0), 0);
            E.is("7", f.deliver(f.commit(0, 2, f.byHash(message), null), 0), 7);
        });
        inGroup("all else of it is asked in the COMMIT, 7: an ADD whose key and init key are one", f -> {
            Model.T key = f.m.pub(f.p.forgedName());
            int message = f.p.forge(f.proposal(0, 1, Forger.add(f.pack(9, key, key))));
            E.is("kept", f.p.deliver(message, 0), 0);
            E.is("7", f.deliver(f.commit(0, 2, f.byHash(message), null), 0), 7);
            int c = (int) f.p.commit(0, false);
            E.is("left out", f.p.sign(c, 8), 0);
        });
        inGroup("all else of it is asked in the COMMIT, 7: an UPDATE of another member, by its own key", f -> {
            int message = f.p.forge(f.proposal(0, 1, Forger.update(f.freshUpdate(9, 1))));
            E.is("kept", f.p.deliver(message, 0), 0);
            int c = (int) f.p.commit(0, false);
            E.is("left out", f.p.sign(c, 8), 0);
        });
        inGroup("a REMOVE of who proposes it is right in another's COMMIT", f -> {
            int message = (int) f.p.propose(1, 3, 1);
            E.is("kept", f.p.deliver(message, 0), 0);
            List<Object> byHash = f.byHash(message);
            E.is("taken", f.deliver(f.commit(0, 2, byHash, f.path(0, 2, byHash)), 0), 0);
            E.is("leaf 1 is BLANK", f.p.node(0, 2, 0), 0);
        });
    }

    private static void proposalsRight() {
        answer("at most one UPDATE or REMOVE of a leaf: two leaves, one of each", 0, 0, f -> {
            int update = (int) f.p.propose(1, 2, 0);
            f.p.deliver(update, 0);
            List<Object> both = Forger.join(f.byHash(update), remove(3));
            return f.commit(0, 2, both, f.path(0, 2, both));
        });
        answer("REMOVE of a leaf that is there: leaf 4 of four", 0, 7, f -> f.commit(0, 2, remove(4), null));
        answer("one ADD of a member at most: the same PACKAGE twice", 0, 7, f -> {
            List<Object> pack = f.pack(9);
            return f.commit(0, 2, Forger.join(add(pack), add(pack)), null);
        });
        answer("one ADD of a member at most: also of one who is REMOVED", 0, 7, f ->
            f.commit(0, 2, Forger.join(remove(1), add(f.pack(1)), add(f.pack(1))), null));
        answer("no two LEAFS have one key: an UPDATE and an ADD", 0, 7, f -> {
            Model.T key = f.m.pub(f.p.forgedName());
            int update = f.p.forge(f.proposal(0, 1, Forger.update(f.leaf(1, key, 2, 1))));
            f.p.deliver(update, 0);
            return f.commit(0, 2, Forger.join(f.byHash(update), add(f.pack(9, f.m.pub(f.p.forgedName()), key))), null);
        });
        answer("behind all of them: the key that an UPDATE leaves may come again", 0, 0, f -> {
            Model.T key = f.state(0).tree.leaf(1).key();
            int update = (int) f.p.propose(1, 2, 0);
            f.p.deliver(update, 0);
            List<Object> both = Forger.join(f.byHash(update), add(f.pack(9, f.m.pub(f.p.forgedName()), key)));
            return f.commit(0, 2, both, f.path(0, 2, both));
        });
        inGroup("what a COMMIT that was refused had in it does not count in the next", f -> {
            Model.T key = f.m.pub(f.p.forgedName());
            int update = f.p.forge(f.proposal(0, 1, Forger.update(f.leaf(1, key, 2, 1))));
            f.p.deliver(update, 0);
            List<Object> both = Forger.join(remove(3), f.byHash(update));
            E.is("8", f.deliver(f.commit(0, 2, both, null), 0), 8);
            List<Object> add = add(f.pack(9, f.m.pub(f.p.forgedName()), key));
            E.is("0", f.deliver(f.commit(0, 2, add, null), 0), 0);
        });
        answer("an UPDATE to the key that its leaf has", 0, 0, f -> {
            int update = f.p.forge(f.proposal(0, 1, Forger.update(f.leaf(1, f.state(0).tree.leaf(1).key(), 2, 1))));
            f.p.deliver(update, 0);
            return f.commit(0, 2, f.byHash(update), f.path(0, 2, f.byHash(update)));
        });
        answer("nodes above are not asked: an UPDATE to the key of a node", 0, 0, f -> {
            Model.T key = f.state(0).tree.nodes.get(5).key;
            int update = f.p.forge(f.proposal(0, 1, Forger.update(f.leaf(1, key, 2, 1))));
            f.p.deliver(update, 0);
            return f.commit(0, 2, f.byHash(update), f.path(0, 2, f.byHash(update)));
        });
    }

    private static Forger sixteen() {
        Forger f = new Forger(new Pair());
        f.p.create(0);
        for (int k = 1; k < 16; k++) {
            f.p.propose(0, 1, (int) f.p.offer(k));
        }
        int commit = (int) f.p.commit(0, true);
        f.p.deliver(commit, 0);
        f.p.deliver(commit + 1, 1);
        f.p.compromise(1);
        f.p.compromise(0);
        f.p.compromise(18);
        return f;
    }

    private static void fullGroup() {
        scene("leaves enough: none of 16", sixteen(), f ->
            E.is("7", f.deliver(f.commit(1, 0, add(f.pack(18)), null), 1), 7));
        scene("leaves enough, behind the REMOVEs: one of 16", sixteen(), f -> {
            List<Object> both = Forger.join(remove(15), add(f.pack(18)));
            E.is("0", f.deliver(f.commit(1, 0, both, f.path(1, 0, both)), 1), 0);
            E.is("leaf 15", f.p.node(1, 30, 3), 18);
            E.is("D 4", f.p.member(1, 3), 4);
        });
        scene("leaves enough, behind the REMOVEs: also if the ADD is ahead", sixteen(), f -> {
            List<Object> both = Forger.join(add(f.pack(18)), remove(9));
            E.is("0", f.deliver(f.commit(1, 0, both, f.path(1, 0, both)), 1), 0);
            E.is("leaf 9", f.p.node(1, 18, 3), 18);
        });
        scene("leaves enough, behind the REMOVEs: two for one", sixteen(), f -> {
            f.p.compromise(19);
            List<Object> three = Forger.join(remove(9), add(f.pack(18)), add(f.pack(19)));
            E.is("7", f.deliver(f.commit(1, 0, three, null), 1), 7);
        });
        scene("a leaf that is there: leaf 15, not leaf 16", sixteen(), f -> {
            E.is("leaf 16", f.deliver(f.commit(1, 0, remove(16), null), 1), 7);
            E.is("leaf 15", f.deliver(f.commit(1, 0, remove(15), f.path(1, 0, remove(15))), 1), 0);
        });
    }

    // ---- paths

    private static void pathLeaves() {
        answer("9: a key that a leaf has behind the proposals: one that is ADDed", 0, 9, f -> {
            Model.T key = f.m.pub(f.p.forgedName());
            List<Object> add = add(f.pack(9, f.m.pub(f.p.forgedName()), key));
            return f.commit(0, 2, add, f.path(0, 2, add, SAME, x -> x.leafKey = key));
        });
        answer("9: a key that a leaf has behind the proposals: one that is UPDATEd", 0, 9, f -> {
            Model.T key = f.m.pub(f.p.forgedName());
            int update = f.p.forge(f.proposal(0, 1, Forger.update(f.leaf(1, key, 2, 1))));
            f.p.deliver(update, 0);
            List<Object> byHash = f.byHash(update);
            return f.commit(0, 2, byHash, f.path(0, 2, byHash, SAME, x -> x.leafKey = key));
        });
        answer("9: a key that a node has behind the proposals: of its own WAY", 0, 9, f -> {
            Model.T key = f.state(0).tree.nodes.get(5).key;
            return withPath(f, SAME, x -> x.leafKey = key);
        });
        answer("not 9: the key of a node that is BLANK behind the proposals", 0, 0, f -> {
            Model.T key = f.state(0).tree.nodes.get(1).key;
            return f.commit(0, 2, remove(1), f.path(0, 2, remove(1), SAME, x -> x.leafKey = key));
        });
        answer("not 9: the key of a leaf before its UPDATE", 0, 0, f -> {
            Model.T key = f.state(0).tree.leaf(1).key();
            int update = (int) f.p.propose(1, 2, 0);
            f.p.deliver(update, 0);
            List<Object> byHash = f.byHash(update);
            return f.commit(0, 2, byHash, f.path(0, 2, byHash, SAME, x -> x.leafKey = key));
        });
        answer("9: the byte 0 for a parent hash where nodes count", 0, 9, f ->
            withPath(f, SAME, x -> x.parentHash = null));
        answer("8: a PATH of no nodes where two count", 0, 8, f -> withPath(f, SAME, x -> x.sealed.clear()));
        answer("8: a PATH of five nodes", 0, 8, f -> withPath(f, SAME, x -> {
            for (int k = 0; k < 3; k++) {
                x.keys.add(x.keys.get(0));
                x.sealed.add(List.of());
            }
        }));
        inGroup("8: a PATH with nodes where none counts; 9: a parent hash there", f -> {
            List<Object> all = Forger.join(remove(0), remove(1), remove(3));
            E.is("8", f.deliver(f.commit(0, 2, all, f.path(0, 2, all, SAME, x -> {
                x.keys.add(f.m.signatureKey[0]);
                x.sealed.add(List.of());
            })), 0), 8);
            E.is("9", f.deliver(f.commit(0, 2, all, f.path(0, 2, all, SAME,
                    x -> x.parentHash = f.m.hash(NOTHING))), 0), 9);
            E.is("0", f.deliver(f.commit(0, 2, all, f.path(0, 2, all)), 0), 0);
            E.is("it is OUT", f.p.member(0, 0), 0);
        });
        inGroup("a PATH that is not wanted may be there", f -> {
            List<Object> add = add(f.pack(9));
            E.is("with one", f.deliver(f.commit(0, 2, add, f.path(0, 2, add)), 0), 0);
            E.is("without one", f.deliver(f.commit(1, 2, add, null), 1), 0);
        });
    }

    private static void opening() {
        inGroup("with its new key, if its UPDATE goes", f -> {
            List<Object> byHash = f.byHash((int) f.p.propose(1, 2, 0));
            Model.T key = f.m.pub(f.m.members[1].updates.get(0));
            E.is("taken", f.deliver(f.commit(1, 0, byHash, f.path(1, 0, byHash)), 1), 0);
            E.is("its key is the new one", f.p.node(1, 2, 0) == f.p.number(key));
            E.is("it has the secret", f.p.node(1, 2, 5), 1);
            E.is("and those above", f.p.member(1, 12), 3);
        });
        inGroup("10: sealed for the key that it had before its UPDATE", f -> {
            Model.T old = f.state(1).tree.leaf(1).key();
            List<Object> byHash = f.byHash((int) f.p.propose(1, 2, 0));
            E.is("10", f.deliver(f.commit(1, 0, byHash, f.path(1, 0, byHash, SAME,
                    x -> x.sealed.get(0).set(0, f.m.sealed(old, x.secrets.get(0))))), 1), 10);
        });
        inGroup("11: of all nodes from there up, the highest too", f ->
            E.is("11", f.deliver(f.commit(3, 2, NOTHING, f.path(3, 2, NOTHING,
                    x -> x.keys.set(1, f.m.pub(f.p.forgedName())), SAME)), 3), 11));
    }

    // ---- welcomes to trees that are made up

    /** A WELCOME of a tree for member 9, who is given one term, or with a SEALED that is there. */
    private static List<Object> forged(Forger f, Model.State st, int leaf, int by, Model.T sealed) {
        if (f.m.members[9].packs.isEmpty()) {
            f.p.offer(9);
            f.p.compromise(9);
        }
        Model.Own own = f.m.members[9].packs.get(0);
        Model.T joiner = sealed == null ? f.p.forgedName() : sealed.part(1);
        Model.T confirmation = f.m.begin(st, joiner);
        Model.T in = sealed == null ? f.m.sealed(own.pack().init(), joiner) : sealed;
        return f.m.welcomeSigns(Forger.signs(f.m.hash(own.pack().signs()), in), st, leaf, confirmation, f.secretOf(by));
    }

    /** Member 9 has a PACKAGE, and the intruder has seen into it and into members 0 to 2. */
    private static Forger alone() {
        Forger f = new Forger(new Pair());
        f.p.offer(9);
        f.p.compromise(9);
        for (int k = 0; k < 3; k++) {
            f.p.compromise(k);
        }
        return f;
    }

    private static Model.Leaf ownLeaf(Forger f) {
        return f.m.members[9].packs.get(0).pack().leaf();
    }

    private static Model.State tree(int d) {
        Model.State st = new Model.State();
        st.tree = new Model.Tree();
        st.tree.d = d;
        return st;
    }

    private static void welcomeSmall() {
        scene("D 0: a tree of its LEAF alone", alone(), f -> {
            Model.State st = tree(0);
            st.tree.put(0, ownLeaf(f));
            E.is("0", f.deliver(forged(f, st, 0, 9, null), 9), 0);
            E.is("D", f.p.member(9, 3), 0);
            E.is("leaf", f.p.member(9, 2), 0);
            E.is("secrets", f.p.member(9, 12), 1);
            E.is("its COMMIT", f.p.deliver((int) f.p.commit(9, false), 9), 0);
        });
        scene("D 0: a tree without a LEAF", alone(), f ->
            E.is("15", f.deliver(forged(f, tree(0), 0, 9, null), 9), 15));
        scene("D 0: with a path secret there is no such lowest node: 11", new Forger(new Pair()), f -> {
            f.p.create(0);
            f.p.propose(0, 1, (int) f.p.offer(9));
            List<Object> w = f.m.messages.get((int) f.p.commit(0, true) + 1);
            f.p.compromise(9);
            Model.T two = f.m.new Reading(w).welcome().joiners().get(0).sealed();
            E.is("two terms", two.parts.size(), 3);
            Model.State st = tree(0);
            st.tree.put(0, ownLeaf(f));
            E.is("11", f.deliver(forged(f, st, 0, 9, two), 9), 11);
            E.is("it is OUT", f.p.member(9, 0), 0);
            E.is("the right one", f.deliver(w, 9), 0);
        });
        scene("D 4 of two leaves, BLANK between", alone(), f -> {
            Model.State st = tree(4);
            st.tree.put(0, f.leaf(0, f.m.pub(f.p.forgedName()), 1, 0));
            st.tree.put(15, ownLeaf(f));
            E.is("0", f.deliver(forged(f, st, 0, 0, null), 9), 0);
            E.is("D", f.p.member(9, 3), 4);
            E.is("leaf", f.p.member(9, 2), 15);
            E.is("the top's RESOLUTION", f.p.node(9, 15, 4), 2);
            f.p.propose(9, 3, 0);
            E.is("its COMMIT", f.p.deliver((int) f.p.commit(9, false), 9), 0);
            E.is("D stays", f.p.member(9, 3), 4);
            E.is("of itself alone", f.p.node(9, 15, 4), 1);
        });
    }

    private static void welcomeLarge() {
        scene("D 4 without its LEAF: 15", alone(), f -> {
            Model.State st = tree(4);
            st.tree.put(0, f.leaf(0, f.m.pub(f.p.forgedName()), 1, 0));
            st.tree.put(15, f.leaf(1, f.m.pub(f.p.forgedName()), 1, 0));
            E.is("15", f.deliver(forged(f, st, 0, 0, null), 9), 15);
        });
        scene("as long as D is above 0 and the right half's leaves are BLANK, without a REMOVE too", alone(), f -> {
            Model.State st = tree(4);
            st.tree.put(0, ownLeaf(f));
            E.is("0", f.deliver(forged(f, st, 0, 9, null), 9), 0);
            E.is("D 4", f.p.member(9, 3), 4);
            E.is("no node above counts", f.p.node(9, 15, 4), 1);
            int c = (int) f.p.commit(9, true);
            E.is("its COMMIT", f.p.deliver(c, 9), 0);
            E.is("D 0", f.p.member(9, 3), 0);
        });
        scene("D 4, its own half: a PATH on which no node counts", alone(), f -> {
            Model.State st = tree(4);
            st.tree.put(15, ownLeaf(f));
            E.is("0", f.deliver(forged(f, st, 15, 9, null), 9), 0);
            int c = (int) f.p.commit(9, true);
            E.is("without a parent hash", f.p.sign(c, 15), 0);
            E.is("without nodes", f.p.sign(c, 17) + f.p.sign(c, 18), 0);
            E.is("its COMMIT", f.p.deliver(c, 9), 0);
            E.is("D 4", f.p.member(9, 3), 4);
            f.p.propose(9, 1, (int) f.p.offer(5));
            int d = (int) f.p.commit(9, true);
            E.is("one joins", f.p.deliver(d, 9) + f.p.deliver(d + 1, 5), 0);
            E.is("at leaf 0", f.p.member(5, 2), 0);
            E.is("the top counts alone", f.p.member(5, 12), 2);
        });
    }

    private static void welcomeLeaves() {
        scene("its LEAF is not that of the PACKAGE: SOURCE 2, with the same key", alone(), f -> {
            Model.State st = tree(1);
            st.tree.put(0, f.leaf(0, f.m.pub(f.p.forgedName()), 1, 0));
            st.tree.put(1, f.leaf(9, ownLeaf(f).key(), 2, 1));
            E.is("15", f.deliver(forged(f, st, 0, 0, null), 9), 15);
        });
        scene("its LEAF is not that of the PACKAGE: another key", alone(), f -> {
            Model.State st = tree(1);
            st.tree.put(0, f.leaf(0, f.m.pub(f.p.forgedName()), 1, 0));
            st.tree.put(1, f.leaf(9, f.m.pub(f.p.forgedName()), 1, 0));
            E.is("15", f.deliver(forged(f, st, 0, 0, null), 9), 15);
        });
        scene("no two LEAFS have one member, under BLANK nodes", alone(), f -> {
            Model.State st = tree(2);
            st.tree.put(0, f.leaf(0, f.m.pub(f.p.forgedName()), 1, 0));
            st.tree.put(1, f.leaf(0, f.m.pub(f.p.forgedName()), 1, 0));
            st.tree.put(2, ownLeaf(f));
            E.is("15", f.deliver(forged(f, st, 0, 0, null), 9), 15);
        });
        scene("no two LEAFS have one member: its own twice", alone(), f -> {
            Model.State st = tree(1);
            st.tree.put(0, f.leaf(9, f.m.pub(f.p.forgedName()), 1, 0));
            st.tree.put(1, ownLeaf(f));
            E.is("15", f.deliver(forged(f, st, 0, 9, null), 9), 15);
        });
        scene("no two LEAFS have one key, under BLANK nodes", alone(), f -> {
            Model.State st = tree(2);
            Model.T key = f.m.pub(f.p.forgedName());
            st.tree.put(0, f.leaf(0, key, 1, 0));
            st.tree.put(1, ownLeaf(f));
            st.tree.put(3, f.leaf(1, key, 1, 0));
            E.is("15", f.deliver(forged(f, st, 0, 0, null), 9), 15);
        });
        for (int a = 0; a < 4; a++) {
            for (int b = a + 1; b < 4; b++) {
                twoLeaves(a, b, true);
                twoLeaves(a, b, false);
            }
        }
        scene("a BLANK leaf has no member, whatever was read before", alone(), f -> {
            Model.State first = tree(1);
            first.tree.put(0, ownLeaf(f));
            E.is("4", f.deliver(forged(f, first, 1, 9, null), 9), 4);
            Model.State then = tree(1);
            then.tree.put(1, ownLeaf(f));
            E.is("0", f.deliver(forged(f, then, 1, 9, null), 9), 0);
            E.is("leaf 1", f.p.member(9, 2), 1);
        });
        scene("a LEAF's signature not right: SOURCE 3 for another leaf", alone(), f -> {
            Model.State st = tree(1);
            Model.Leaf leaf = new Model.Leaf(0, f.m.pub(f.p.forgedName()), f.m.signatureKey[0], 3, null, null);
            st.tree.put(0, f.m.signLeaf(leaf, 1, f.secretOf(0)));
            st.tree.put(1, ownLeaf(f));
            E.is("15", f.deliver(forged(f, st, 0, 0, null), 9), 15);
            st.tree.put(0, f.m.signLeaf(leaf, 0, f.secretOf(0)));
            E.is("0", f.deliver(forged(f, st, 0, 0, null), 9), 0);
        });
        scene("a LEAF's signature not right: the last leaf", alone(), f -> {
            Model.State st = tree(1);
            st.tree.put(0, ownLeaf(f));
            Model.Leaf leaf = new Model.Leaf(0, f.m.pub(f.p.forgedName()), f.m.signatureKey[0], 1, null, null);
            st.tree.put(1, f.m.signLeaf(leaf, 0, f.secretOf(1)));
            E.is("15", f.deliver(forged(f, st, 0, 9, null), 9), 15);
        });
        scene("a LEAF of a member that is not there", alone(), f -> {
            Model.State st = tree(1);
            st.tree.put(0, ownLeaf(f));
            Model.Leaf leaf = new Model.Leaf(24, f.m.pub(f.p.forgedName()), f.m.signatureKey[0], 1, null, null);
            st.tree.put(1, f.m.signLeaf(leaf, 0, f.secretOf(0)));
            E.is("15", f.deliver(forged(f, st, 0, 9, null), 9), 15);
        });
    }

    /** Leaves a and b, of four under BLANK nodes, have one member or one key; another is its own. */
    private static void twoLeaves(int a, int b, boolean isMember) {
        String what = "no two LEAFS have one " + (isMember ? "member: " : "key: ") + a + " and " + b;
        scene(what, alone(), f -> {
            Model.State st = tree(2);
            Model.T key = f.m.pub(f.p.forgedName());
            st.tree.put(a, f.leaf(0, key, 1, 0));
            st.tree.put(b, isMember ? f.leaf(0, f.m.pub(f.p.forgedName()), 1, 0) : f.leaf(1, key, 1, 0));
            int own = 0;
            while (own == a || own == b) {
                own++;
            }
            st.tree.put(own, ownLeaf(f));
            E.is(what, f.deliver(forged(f, st, own, 9, null), 9), 15);
            st.tree.nodes.remove(2 * b);
            E.is(what + ": without it", f.deliver(forged(f, st, own, 9, null), 9), 0);
        });
    }

    private static void welcomeSenders() {
        scene("from its own leaf, with a path secret: the node above it", new Forger(new Pair()), f -> {
            f.p.create(0);
            f.p.propose(0, 1, (int) f.p.offer(9));
            List<Object> w = f.m.messages.get((int) f.p.commit(0, true) + 1);
            f.p.compromise(9);
            E.is("0", f.deliver(signedAgain(f, Forger.with(w, infoOf(f, w) + 7, 1), 9), 9), 0);
            E.is("it has the secret of the node", f.p.node(9, 1, 5), 1);
        });
        scene("from a leaf that is BLANK, or beyond: 4", alone(), f -> {
            Model.State st = tree(2);
            st.tree.put(0, ownLeaf(f));
            st.tree.put(3, f.leaf(0, f.m.pub(f.p.forgedName()), 1, 0));
            for (int leaf : new int[] {1, 2, 4, 16, 65535}) {
                E.is("leaf " + leaf, f.deliver(forged(f, st, leaf, 0, null), 9), 4);
            }
            E.is("leaf 3", f.deliver(forged(f, st, 3, 0, null), 9), 0);
        });
    }

    private static void soundTrees() {
        soundTree("one node alone: two leaves on each side", 15, 1, true, 0);
        soundTree("one node alone: the other leaf is UNMERGED", 0, 1, true, 2);
        soundTree("one node alone: the leaf with the hash is UNMERGED", 15, 1, true, 1);
        soundTree("one node alone: none is left", 15, 1, true, 3);
        soundTree("the hash that is wanted there: of the other side", 15, 1, false, 2);
    }

    /** Leaves 0 and 1 below a BLANK node, leaf 2 its own; the top has some leaves, as bits, UNMERGED. */
    private static void soundTree(String what, int want, int other, boolean isRight, int unmerged) {
        scene(what, alone(), f -> {
            Model.State st = tree(2);
            st.tree.put(2, ownLeaf(f));
            Model.Node top = new Model.Node();
            top.key = f.m.pub(f.p.forgedName());
            st.tree.nodes.put(3, top);
            Model.T hash = f.m.wanted(st.tree, 3, isRight);
            st.tree.put(0, f.m.signLeaf(new Model.Leaf(0, f.m.pub(f.p.forgedName()), f.m.signatureKey[0], 3, hash,
                    null), 0, f.secretOf(0)));
            st.tree.put(other, f.leaf(1, f.m.pub(f.p.forgedName()), 1, 0));
            for (int k = 0; k < 16; k++) {
                if ((unmerged >> k & 1) != 0) {
                    top.unmerged.add(k);
                }
            }
            E.is(what, f.deliver(forged(f, st, 0, 0, null), 9), want);
        });
    }

    // ---- the u32 epoch

    private static void epoch(int epoch, int... bytes) {
        String what = "u32 epoch " + Integer.toUnsignedString(epoch);
        scene(what, alone(), f -> {
            Model.State st = tree(1);
            st.epoch = epoch;
            st.tree.put(0, ownLeaf(f));
            st.tree.put(1, f.leaf(0, f.m.pub(f.p.forgedName()), 1, 0));
            E.is(what, f.deliver(forged(f, st, 0, 9, null), 9), 0);
            E.is(what + ": told", f.p.member(9, 1), epoch);
            int remove = (int) f.p.propose(9, 3, 1);
            for (int k = 0; k < 4; k++) {
                E.is(what + ": byte " + k, f.p.sign(remove, 1 + k), bytes[k]);
            }
            List<Object> of = f.proposal(9, 1, Forger.remove(0));
            E.is(what + ": a PROPOSAL in it", f.deliver(of, 9), 0);
            int c = (int) f.p.commit(9, false);
            E.is(what + ": its COMMIT", f.p.deliver(c, 9), 0);
            E.is(what + ": the next one", f.p.member(9, 1), epoch + 1);
            E.is(what + ": the PROPOSAL is of another one", f.deliver(of, 9), 2);
            int next = (int) f.p.propose(9, 3, 1);
            E.is(what + ": the last byte of the next one", f.p.sign(next, 4), epoch + 1 & 255);
            E.is(what + ": the first byte of the next one", f.p.sign(next, 1), epoch + 1 >>> 24);
        });
    }

    private static void epochs() {
        epoch(0x01020304, 1, 2, 3, 4);
        epoch(255, 0, 0, 0, 255);
        epoch(0xffff, 0, 0, 255, 255);
        epoch(0x7fffffff, 127, 255, 255, 255);
        epoch(0x80000000, 128, 0, 0, 0);
        epoch(0xffffffff, 255, 255, 255, 255);
    }

    // ---- rows

    private static void longRows() {
        answer("a ROW of 256 SIGNS: sixty-four REMOVEs", 0, 7, f -> {
            List<Object> many = new ArrayList<>();
            for (int k = 0; k < 64; k++) {
                many.addAll(remove(1));
            }
            return f.commit(0, 2, many, null);
        });
        inGroup("a HASH twice, of a PROPOSAL that it has: 7", f -> {
            int remove = (int) f.p.propose(1, 3, 3);
            f.p.deliver(remove, 0);
            List<Object> one = f.byHash(remove);
            E.is("7", f.deliver(f.commit(0, 2, Forger.join(one, one), null), 0), 7);
            E.is("0", f.deliver(f.commit(0, 2, one, f.path(0, 2, one)), 0), 0);
        });
    }
}
