import java.util.ArrayList;
import java.util.List;
import java.util.function.Consumer;

/**
 * Promise 10: each answer of deliver. The messages are right but for one thing; the class is asked
 * side by side with the model, and both must give the answer that stands here.
 */
public final class DeliverTest {
    private static final Expect E = new Expect();
    private static final Consumer<Forger.PathParts> SAME = x -> { };

    private interface Scene {
        void play(Forger f);
    }

    /** Plays a scene in a group of four, all of whom the intruder has seen into. */
    private static void inGroup(String what, Scene scene) {
        inGroup(what, 4, scene);
    }

    private static void inGroup(String what, int size, Scene scene) {
        Forger f = Forger.group(size);
        f.compromiseAll();
        try {
            scene.play(f);
        } catch (Pair.Differs e) {
            E.is(what + ": " + e.getMessage(), false);
        } catch (Pair.Unforgeable e) {
            E.is(what + ": can't be forged", false);
        }
        E.is(what + ": keeps within 512 calls", f.p.log.size() <= 512);
    }

    private static void code(String what, List<Object> signs, Forger f, int who, int want) {
        E.is(what, f.deliver(signs, who), want);
    }

    public static void main(String[] args) {
        unreadable();
        unreadableCommits();
        unreadableWelcomes();
        seenLater();
        epochs();
        senders();
        signatures();
        tags();
        proposals();
        wrongProposals();
        rightProposals();
        paths();
        pathLeaves();
        opening();
        keys();
        confirmations();
        removed();
        welcomes();
        welcomeTrees();
        welcomeSecrets();
        madeUpGroups();
        madeUpTrees();
        oddTrees();
        fullGroups();
        keeping();
        E.finish();
    }

    private static void unreadable() {
        inGroup("signs that are none of these", f -> {
            code("an empty message", List.of(), f, 0, 1);
            code("u8 0", Forger.signs(0), f, 0, 1);
            code("u8 5", Forger.signs(5), f, 0, 1);
            code("a term first", Forger.signs(f.m.signatureKey[0]), f, 0, 1);
            List<Object> pack = f.pack(9);
            code("a package that is right", pack, f, 0, 0);
            code("one too short", pack.subList(0, 8), f, 0, 1);
            code("one left over", Model.plus(pack, List.of(0)), f, 0, 1);
            code("a byte for a term", Forger.with(pack, 1, 7), f, 0, 1);
            code("a term for a byte", Forger.with(pack, 2, f.m.signatureKey[0]), f, 0, 1);
            code("a term of another sort", Forger.with(pack, 1, f.m.zero), f, 0, 1);
            code("SOURCE 2 in a package", f.m.packSigns(f.m.signatureKey[1],
                    f.freshUpdate(9, 0), f.secretOf(9)), f, 0, 1);
            code("SOURCE 0", Forger.with(pack, 6, 0), f, 0, 1);
            code("a member that is not there", Forger.with(pack, 2, 9), f, 0, 4);
        });
        inGroup("proposals that are none of these", f -> {
            List<Object> right = f.proposal(0, 1, Forger.remove(2));
            code("content 0", Forger.with(right, 7, 0), f, 0, 1);
            code("content 4", Forger.with(right, 7, 4), f, 0, 1);
            code("content 4 of nothing", f.proposal(0, 1, Forger.signs(4)), f, 0, 1);
            code("a remove of nothing", f.proposal(0, 1, Forger.signs(3)), f, 0, 1);
            code("tag and signature changed", Forger.with(right, -1, right.get(right.size() - 2)), f, 0, 1);
            List<Object> add = f.proposal(0, 1, Forger.add(f.pack(9)));
            code("a row that is too long", Forger.with(add, 9, 10), f, 0, 1);
            code("a row that is too short", Forger.with(add, 9, 8), f, 0, 1);
            code("a row beyond the end", Forger.with(add, 8, 200), f, 0, 1);
            code("u8 2 in an ADD", Forger.with(add, 10, 2), f, 0, 1);
            code("an update of SOURCE 1", f.proposal(0, 1, Forger.update(
                    f.leaf(1, f.m.signatureKey[9], 1, 0))), f, 0, 1);
        });
    }

    private static void unreadableCommits() {
        inGroup("commits that are none of these", f -> {
            List<Object> none = List.of();
            code("entry 3", Forger.with(f.commit(0, 2, Forger.signs(3, 3, 0, 1), null), 9, 3), f, 0, 1);
            code("entry 3 of nothing", f.commitEnd(0, f.commitHead(0, 2, Forger.signs(3), null)), f, 0, 1);
            code("no path, but marked 2", Forger.with(f.commitEnd(0, f.commitHead(0, 2, none, null)), 9, 2), f, 0, 1);
        });
        inGroup("paths that are none of these", f -> {
            List<Object> none = List.of();
            List<Object> right = f.commit(0, 2, none, f.path(0, 2, none));
            code("a path marked 2", Forger.with(right, 9, 2), f, 0, 1);
            code("a path marked 0", Forger.with(right, 9, 0), f, 0, 1);
            code("a path of SOURCE 2", Forger.with(right, 14, 2), f, 0, 1);
            code("a parent hash that is a byte", Forger.with(right, 15, 1), f, 0, 1);
            code("a row of nodes that is too long", Forger.with(right, 18,
                    (Integer) right.get(18) + 1), f, 0, 1);
            code("a row of sealed that is too long", Forger.with(right, 21,
                    (Integer) right.get(21) + 1), f, 0, 1);
            code("a key for a sealed", Forger.with(right, 22, f.m.signatureKey[0]), f, 0, 1);
            code("the commit that is right", right, f, 0, 0);
        });
    }

    private static void unreadableWelcomes() {
        inGroup("welcomes that are none of these", f -> {
            int pack = (int) f.p.offer(9);
            f.p.propose(3, 1, pack);
            int commit = (int) f.p.commit(3, false);
            List<Object> w = f.m.messages.get(commit + 1);
            int tree = f.m.new Reading(w).welcome().infoStart() + 8;
            E.is("a tree of 15 nodes", f.m.new Reading(w).welcome().tree().d, 3);
            code("a row of joiners that is too short", Forger.with(w, 2, 1), f, 9, 1);
            code("a leaf at a place above", Forger.with(w, parentAt(w, tree + 2), 1), f, 9, 1);
            code("a node at a leaf's place", Forger.with(w, tree + 2, 2), f, 9, 1);
            code("u8 3", Forger.with(w, tree + 2, 3), f, 9, 1);
        });
        inGroup("trees that are none of these", f -> {
            List<Object> w = welcome(f, false);
            int own = f.m.new Reading(w).welcome().infoStart() + 10;
            while (!w.subList(own, own + 3).equals(List.of(1, 0, 9))) {
                own++;
            }
            E.is("its leaf is found", (Integer) w.get(own + 5), 1);
            E.is("a blank one is behind", (Integer) w.get(own + 7), 0);
            code("a leaf of SOURCE 0", Forger.with(w, own + 5, 0), f, 9, 1);
            code("a leaf of SOURCE 4", Forger.with(w, own + 5, 4), f, 9, 1);
            code("a node of sort 3", Forger.with(w, own + 7, 3), f, 9, 1);
        });
        inGroup("rows of trees that are none of these", f -> {
            List<Object> w = welcome(f, false);
            int tree = f.m.new Reading(w).welcome().infoStart() + 8;
            int unmerged = lastParent(w) + 3;
            code("an odd row of unmerged", Forger.with(w, unmerged + 1, 1), f, 9, 1);
            List<Object> fewer = new ArrayList<>(w);
            fewer.remove(tree + 1 + (Integer) w.get(tree) * 256 + (Integer) w.get(tree + 1));
            fewer.set(tree + 1, (Integer) fewer.get(tree + 1) - 1);
            code("14 nodes", fewer, f, 9, 1);
            code("the welcome that is right", w, f, 9, 0);
        });
        inGroup("unmerged leaves", f -> {
            int pack = (int) f.p.offer(9);
            Model.State st = f.state(0);
            Model.Node top = st.tree.nodes.get(5);
            top.unmerged.add(14);
            top.unmerged.add(15);
            st.treeHash = f.m.topHash(st.tree);
            List<Object> w = f.m.welcomeSigns(joiner(f, 9, pack), st, 0, f.m.mac(f.m.zero, List.of()), f.secretOf(0));
            top.unmerged.clear();
            int at = lastParent(w) + 8;
            E.is("unmerged is found", (Integer) w.get(at), 15);
            code("leaf 15 among unmerged can be read", w, f, 9, 15);
            code("leaf 16 can't", Forger.with(w, at, 16), f, 9, 1);
            code("nor can one twice", Forger.with(w, at, 14), f, 9, 1);
            code("nor another order", Forger.with(w, at, 13), f, 9, 1);
            code("nor a leaf far away", Forger.with(w, at - 1, 1), f, 9, 1);
        });
    }

    /** Where the last u8 2 of the nodes stands. */
    private static int lastParent(List<Object> w) {
        int found = -1;
        for (int k = 0; k + 2 < w.size(); k++) {
            boolean isHash = w.get(k + 2) instanceof Model.T h ? h.sort == Model.HASH : w.get(k + 2).equals(0);
            if (w.get(k).equals(2) && w.get(k + 1) instanceof Model.T t && t.sort == Model.PUBLIC && isHash) {
                found = k;
            }
        }
        return found;
    }

    private static int parentAt(List<Object> w, int from) {
        for (int k = from; k + 1 < w.size(); k++) {
            if (w.get(k).equals(2) && w.get(k + 1) instanceof Model.T) {
                return k;
            }
        }
        return -1;
    }

    private static List<Object> joiner(Forger f, int who, int pack) {
        Model.Own own = f.m.members[who].packs.get(f.m.members[who].packs.size() - 1);
        return Forger.signs(f.m.hash(f.m.messages.get(pack)), f.m.sealed(own.pack().init(), f.p.forgedName()));
    }

    private static void seenLater() {
        Forger f = new Forger(new Pair());
        f.p.create(0);
        f.p.create(1);
        f.p.compromise(9);
        int key = (int) f.p.node(0, 0, 0);
        Model.T unseen = f.m.byNumber(key);
        E.is("the key was never sent", f.p.isKnown(key), 0);
        int pack = f.p.forge(f.pack(9, f.m.pub(f.p.forgedName()), unseen));
        E.is("a term that is not seen", f.p.deliver(pack, 1), 1);
        E.is("nor is it proposed", f.p.propose(1, 1, pack), Pair.THROWS_ARGUMENT);
        f.p.compromise(0);
        E.is("now the intruder can make it", f.p.isKnown(key), 1);
        E.is("one may be taken later", f.p.deliver(pack, 1), 0);
        E.is("and be proposed", f.p.propose(1, 1, pack) >= 0);
    }

    private static void epochs() {
        inGroup("epochs", f -> {
            List<Object> right = f.proposal(0, 1, Forger.remove(2));
            code("epoch one more", Forger.with(right, 4, (Integer) right.get(4) + 1), f, 0, 2);
            code("epoch far away", Forger.with(right, 1, 255), f, 0, 2);
            code("a member that is out", right, f, 9, 2);
            code("in its epoch", right, f, 0, 0);
            int commit = (int) f.p.commit(1, true);
            E.is("a commit to who is out", f.p.deliver(commit, 9), 2);
            f.deliverToGroup(commit, 1);
            E.is("once more", f.p.deliver(commit, 0), 2);
            E.is("its own once more", f.p.deliver(commit, 1), 2);
            E.is("a package has no epoch", f.deliver(f.pack(8), 9), 0);
            List<Object> w = f.m.messages.get(3);
            E.is("a welcome", (Integer) w.get(0), 4);
            E.is("a welcome to who is in", f.p.deliver(3, 1), 2);
            E.is("a welcome to who is out, but it is for another", f.p.deliver(3, 9), 13);
        });
    }

    private static void senders() {
        inGroup("senders", f -> {
            List<Object> right = f.proposal(0, 1, Forger.remove(2));
            code("a leaf beyond the tree", Forger.with(right, 6, 4), f, 0, 3);
            code("a leaf far beyond", Forger.with(right, 5, 255), f, 0, 3);
            code("its own leaf", Forger.with(right, 6, 0), f, 0, 3);
            int own = (int) f.p.propose(0, 3, 2);
            E.is("a proposal of its own", f.p.deliver(own, 0), 3);
            List<Object> none = List.of();
            List<Object> c = f.commit(0, 2, none, f.path(0, 2, none));
            code("a commit of a leaf beyond", Forger.with(c, 6, 9), f, 0, 3);
            code("a commit of its own that is not pending", Forger.with(c, 6, 0), f, 0, 3);
            int first = (int) f.p.commit(0, true);
            int second = (int) f.p.commit(0, true);
            E.is("the commit before is forgotten", f.p.deliver(first, 0), 3);
            code("a copy of the pending one", f.m.messages.get(second), f, 0, 0);
        });
        inGroup("a blank leaf", f -> {
            int remove = (int) f.p.propose(3, 3, 1);
            List<Object> stale = f.proposal(0, 1, Forger.remove(2));
            int commit = (int) f.p.commit(3, true);
            f.deliverToGroup(commit, 3);
            E.is("member 1 is out", f.p.member(1, 0), 0);
            stale.set(4, f.state(0).epoch);
            code("a blank leaf sends", stale, f, 0, 3);
            E.is("of the epoch before", f.p.deliver(remove, 0), 2);
        });
    }

    private static void signatures() {
        inGroup("signatures", f -> {
            List<Object> pack = f.pack(9);
            code("of a package", Forger.with(pack, 8, f.m.signed(f.secretOf(8), pack.subList(0, 8))), f, 0, 4);
            code("of other signs", Forger.with(pack, 8, f.m.signed(f.secretOf(9),
                    Forger.with(pack.subList(0, 8), 0, 2))), f, 0, 4);
            code("of its leaf", f.m.packSigns(f.m.signatureKey[3], f.m.signLeaf(new Model.Leaf(9,
                    f.m.signatureKey[4], f.m.signatureKey[9], 1, null, null), 0, f.secretOf(8)),
                    f.secretOf(9)), f, 0, 4);
            code("another's signature key", f.m.packSigns(f.m.signatureKey[3], f.m.signLeaf(new Model.Leaf(9,
                    f.m.signatureKey[4], f.m.signatureKey[8], 1, null, null), 0, f.secretOf(8)),
                    f.secretOf(8)), f, 0, 4);
            code("member 24", f.m.packSigns(f.m.signatureKey[3], f.m.signLeaf(new Model.Leaf(24,
                    f.m.signatureKey[4], f.m.signatureKey[8], 1, null, null), 0, f.secretOf(8)),
                    f.secretOf(8)), f, 0, 4);
            Model.T key = f.m.pub(f.p.forgedName());
            code("key and init key are one", f.pack(9, key, key), f, 0, 4);
        });
        inGroup("signatures of proposals", f -> {
            Model.State st = f.state(0);
            code("another signs", f.m.proposalSigns(st, 1, Forger.remove(2), f.secretOf(2)), f, 0, 4);
            List<Object> s = Forger.signs(2, 0, 0, 0, st.epoch, 0, 1, 3, 0, 2);
            s.add(f.m.signed(f.secretOf(1), s));
            s.add(f.m.mac(f.m.membership(st), s));
            code("without the context", s, f, 0, 4);
            code("an update signed for another leaf", f.proposal(0, 1, Forger.update(f.freshUpdate(1, 2))), f, 0, 4);
            code("an update signed by another", f.proposal(0, 1, Forger.update(f.m.signLeaf(new Model.Leaf(1,
                    f.m.signatureKey[9], f.m.signatureKey[1], 2, null, null), 1, f.secretOf(2)))), f, 0, 4);
            code("an update of another member, signed by it",
                    f.proposal(0, 1, Forger.update(f.freshUpdate(9, 1))), f, 0, 0);
            List<Object> pack = f.pack(9);
            code("an add whose package is not signed", f.proposal(0, 1, Forger.add(
                    Forger.with(pack, 8, f.m.signed(f.secretOf(8), pack.subList(0, 8))))), f, 0, 4);
            Model.T key = f.m.pub(f.p.forgedName());
            code("an add whose keys are one is kept", f.proposal(0, 1, Forger.add(f.pack(9, key, key))), f, 0, 0);
        });
        inGroup("signatures of commits", f -> {
            List<Object> none = List.of();
            List<Object> c = f.commit(0, 2, none, f.path(0, 2, none));
            int n = c.size();
            List<Object> changed = new ArrayList<>(c.subList(0, n - 3));
            changed.add(f.m.signed(f.secretOf(1), Model.plus(changed, f.m.context(f.state(0)))));
            changed.add(c.get(n - 2));
            changed.add(f.m.mac(f.m.membership(f.state(0)), changed));
            code("another signs", changed, f, 0, 4);
        });
    }

    private static void tags() {
        inGroup("tags", f -> {
            List<Object> right = f.proposal(0, 1, Forger.remove(2));
            code("a tag by another key", Forger.with(right, -1,
                    f.m.mac(f.m.zero, right.subList(0, right.size() - 1))), f, 0, 5);
            code("a tag of other signs", Forger.with(right, -1, f.m.mac(f.m.membership(f.state(0)),
                    right.subList(0, right.size() - 2))), f, 0, 5);
            List<Object> none = List.of();
            List<Object> c = f.commit(0, 2, none, f.path(0, 2, none));
            code("a commit's tag is of the confirmation, too", Forger.with(c, -1,
                    f.m.mac(f.m.membership(f.state(0)), c.subList(0, c.size() - 2))), f, 0, 5);
            code("the tag that is right", c, f, 0, 0);
        });
    }

    private static void proposals() {
        inGroup("proposals by hash", f -> {
            int update = (int) f.p.propose(1, 2, 0);
            List<Object> byHash = f.byHash(update);
            List<Object> none = List.of();
            List<Object> path = f.path(0, 2, none);
            List<Object> c = f.commit(0, 2, byHash, path);
            code("a proposal that it has not", c, f, 0, 6);
            code("ahead of one that is wrong", f.commit(0, 2, Forger.join(Forger.byContent(Forger.remove(2)), byHash),
                    path), f, 0, 6);
        });
        inGroup("proposals that it has not, behind others", f -> {
            int update = (int) f.p.propose(1, 2, 0);
            List<Object> byHash = f.byHash(update);
            List<Object> path = f.path(0, 2, List.of());
            code("behind one by content", f.commit(0, 2, Forger.join(
                    Forger.byContent(Forger.update(f.freshUpdate(2, 2))), byHash), path), f, 0, 6);
        });
        inGroup("proposals that come", f -> {
            int update = (int) f.p.propose(1, 2, 0);
            List<Object> byHash = f.byHash(update);
            List<Object> c = f.commit(0, 2, byHash, f.path(0, 2, List.of()));
            E.is("it comes", f.p.deliver(update, 0), 0);
            code("now the path does not fit", c, f, 0, 8);
            code("with a path that fits", f.commit(0, 2, byHash, f.path(0, 2, byHash)), f, 0, 0);
        });
    }

    /** A commit by leaf 2 of these entries, with a path as if there were none: 7 comes first. */
    private static void wrong(String what, Forger f, List<Object> entries) {
        code(what, f.commit(0, 2, entries, f.path(0, 2, List.of())), f, 0, 7);
    }

    private static void wrongProposals() {
        inGroup("wrong updates and removes", f -> {
            int own = f.p.forge(f.proposal(0, 2, Forger.update(f.freshUpdate(2, 2))));
            f.p.deliver(own, 0);
            wrong("an update of who commits", f, f.byHash(own));
            wrong("an update by content", f, Forger.byContent(Forger.update(f.freshUpdate(2, 2))));
            wrong("a remove of who commits", f, Forger.byContent(Forger.remove(2)));
        });
        inGroup("wrong removes", f -> {
            wrong("a remove of a leaf beyond", f, Forger.byContent(Forger.remove(4)));
            wrong("a remove far beyond", f, Forger.byContent(Forger.remove(0x1001)));
            List<Object> many = new ArrayList<>();
            for (int k = 0; k < 40; k++) {
                many.addAll(Forger.byContent(Forger.remove(1)));
            }
            wrong("forty removes of a leaf", f, many);
        });
        inGroup("two removes", f -> {
            wrong("two removes of a leaf", f, Forger.join(Forger.byContent(Forger.remove(1)),
                    Forger.byContent(Forger.remove(1))));
        });
        inGroup("an update and a remove", f -> {
            int update = (int) f.p.propose(1, 2, 0);
            int second = (int) f.p.propose(1, 2, 0);
            f.p.deliver(update, 0);
            f.p.deliver(second, 0);
            wrong("both of a leaf", f, Forger.join(f.byHash(update), Forger.byContent(Forger.remove(1))));
            wrong("two updates of a leaf", f, Forger.join(f.byHash(update), f.byHash(second)));
        });
        inGroup("updates whose leaf is wrong", f -> {
            int other = f.p.forge(f.proposal(0, 1, Forger.update(f.freshUpdate(9, 1))));
            E.is("an update of another member is taken", f.p.deliver(other, 0), 0);
            wrong("but not right", f, f.byHash(other));
            int same = f.p.forge(f.proposal(0, 1, Forger.update(
                    f.leaf(1, f.state(0).tree.leaf(3).key(), 2, 1))));
            f.p.deliver(same, 0);
            wrong("an update to a key that a leaf has", f, f.byHash(same));
        });
        inGroup("a remove of a blank leaf", f -> {
            f.p.propose(3, 3, 1);
            f.deliverToGroup((int) f.p.commit(3, true), 3);
            wrong("leaf 1 is blank", f, Forger.byContent(Forger.remove(1)));
        });
        inGroup("wrong adds", f -> {
            List<Object> pack = f.pack(9);
            Model.T key = f.m.pub(f.p.forgedName());
            wrong("a package that is not signed", f, Forger.byContent(Forger.add(
                    Forger.with(pack, 8, f.m.signed(f.secretOf(8), pack.subList(0, 8))))));
            wrong("key and init key are one", f, Forger.byContent(Forger.add(f.pack(9, key, key))));
        });
        inGroup("adds of members", f -> {
            wrong("of a member that is there", f, Forger.byContent(Forger.add(f.pack(1))));
            wrong("of who commits", f, Forger.byContent(Forger.add(f.pack(2))));
        });
        inGroup("two adds of a member", f -> {
            List<Object> pack = f.pack(9);
            wrong("two of a member", f, Forger.join(Forger.byContent(Forger.add(pack)),
                    Forger.byContent(Forger.add(f.pack(9)))));
        });
        inGroup("adds with keys that are there", f -> {
            wrong("a leaf has it", f, Forger.byContent(Forger.add(
                    f.pack(9, f.m.pub(f.p.forgedName()), f.state(0).tree.leaf(1).key()))));
            wrong("leaf 0 has it", f, Forger.byContent(Forger.add(
                    f.pack(9, f.m.pub(f.p.forgedName()), f.state(0).tree.leaf(0).key()))));
        });
        inGroup("two adds with one key", f -> {
            Model.T key = f.m.pub(f.p.forgedName());
            wrong("two adds with one key", f, Forger.join(
                    Forger.byContent(Forger.add(f.pack(9, f.m.pub(f.p.forgedName()), key))),
                    Forger.byContent(Forger.add(f.pack(8, f.m.pub(f.p.forgedName()), key)))));
        });
    }

    private static void right(String what, Forger f, List<Object> entries, int size) {
        code(what, f.commit(0, 2, entries, f.path(0, 2, entries)), f, 0, 0);
        int leaves = 0;
        for (int n = 0; n < 32; n += 2) {
            leaves += f.p.node(0, n, 3) >= 0 ? 1 : 0;
        }
        E.is(what + ", so many leaves", leaves, size);
    }

    private static void rightProposals() {
        inGroup("a member that is removed may be added", f -> {
            right("remove ahead of add", f, Forger.join(Forger.byContent(Forger.remove(1)),
                    Forger.byContent(Forger.add(f.pack(1)))), 4);
            E.is("it has the lowest free leaf", f.p.node(0, 2, 3), 1);
        });
        inGroup("a member that is removed may be added", f ->
            right("remove behind add", f, Forger.join(Forger.byContent(Forger.add(f.pack(1))),
                    Forger.byContent(Forger.remove(1))), 4));
        inGroup("a key whose leaf is removed may come again", f ->
            right("the key of the leaf removed", f, Forger.join(Forger.byContent(Forger.remove(1)), Forger.byContent(
                    Forger.add(f.pack(9, f.m.pub(f.p.forgedName()), f.state(0).tree.leaf(1).key())))), 4));
        inGroup("nodes above are not asked", f ->
            right("the key of a node above", f, Forger.byContent(Forger.add(
                    f.pack(9, f.m.pub(f.p.forgedName()), f.state(0).tree.nodes.get(3).key))), 5));
        inGroup("secrets are had of nodes", f -> {
            right("the key of a node that stays", f, Forger.byContent(Forger.add(
                    f.pack(9, f.m.pub(f.p.forgedName()), f.state(0).tree.nodes.get(1).key))), 5);
            E.is("one key of two nodes", f.p.node(0, 8, 0), f.p.node(0, 1, 0));
            E.is("the secret that it had of a node whose key is the same", f.p.node(0, 1, 5), 1);
            E.is("none of a leaf that it was not told", f.p.node(0, 8, 5), 0);
            E.is("its leaf, that node, and two that it was told now", f.p.member(0, 12), 4);
        });
        inGroup("an update by hash", f -> {
            int update = (int) f.p.propose(1, 2, 0);
            f.p.deliver(update, 0);
            right("of another leaf", f, f.byHash(update), 4);
            E.is("its way is blank where it does not count", f.p.node(0, 1, 0), 0);
        });
        inGroup("adds alone need no path", f -> {
            code("without a path", f.commit(0, 2, Forger.byContent(Forger.add(f.pack(9))), null), f, 0, 0);
            E.is("a taller tree", f.p.member(0, 3), 3);
            E.is("at leaf 4", f.p.node(0, 8, 3), 9);
        });
    }

    private static void paths() {
        inGroup("paths that are missing", f -> {
            List<Object> none = List.of();
            code("without proposals", f.commit(0, 2, none, null), f, 0, 8);
            code("with a remove", f.commit(0, 2, Forger.byContent(Forger.remove(1)), null), f, 0, 8);
            int update = (int) f.p.propose(1, 2, 0);
            f.p.deliver(update, 0);
            code("with an update", f.commit(0, 2, f.byHash(update), null), f, 0, 8);
            code("one node less", f.commit(0, 2, none, f.path(0, 2, none, SAME, x -> x.sealed.remove(1))), f, 0, 8);
            code("one node more", f.commit(0, 2, none, f.path(0, 2, none, SAME, x -> {
                x.keys.add(x.keys.get(0));
                x.sealed.add(List.of());
            })), f, 0, 8);
            code("one sealed less", f.commit(0, 2, none, f.path(0, 2, none, SAME,
                    x -> x.sealed.get(1).remove(0))), f, 0, 8);
        });
        inGroup("more nodes than a tree has", f -> {
            List<Object> none = List.of();
            code("six nodes", f.commit(0, 2, none, f.path(0, 2, none, SAME, x -> {
                for (int k = 0; k < 4; k++) {
                    x.keys.add(x.keys.get(0));
                    x.sealed.add(List.of());
                }
            })), f, 0, 8);
        });
        inGroup("one sealed more", f -> {
            List<Object> none = List.of();
            code("one sealed more", f.commit(0, 2, none, f.path(0, 2, none, SAME,
                    x -> x.sealed.get(0).add(x.sealed.get(0).get(0)))), f, 0, 8);
        });
        inGroup("no sealed for who is added", f -> {
            List<Object> add = Forger.byContent(Forger.add(f.pack(9)));
            code("a sealed for a leaf that is added", f.commit(0, 2, add, f.path(0, 2, add, SAME,
                    x -> x.sealed.get(2).add(x.sealed.get(1).get(0)))), f, 0, 8);
        });
        inGroup("a node above who is added counts", f -> {
            List<Object> add = Forger.byContent(Forger.add(f.pack(9)));
            code("none for a leaf that is added", f.commit(0, 2, add, f.path(0, 2, add)), f, 0, 0);
            E.is("but the node above counts", f.p.node(0, 7, 0) > 0);
            E.is("and the leaf is not unmerged there", f.p.node(0, 7, 2), 0);
        });
    }

    private static void leafCode(String what, Consumer<Forger.PathParts> first, Consumer<Forger.PathParts> then, int want) {
        inGroup(what, f -> {
            List<Object> none = List.of();
            code(what, f.commit(0, 2, none, f.path(0, 2, none, first, then)), f, 0, want);
        });
    }

    private static void pathLeaves() {
        leafCode("another member", SAME, x -> x.member = 9, 9);
        leafCode("signed for another leaf", SAME, x -> x.signedNumber = 1, 9);
        leafCode("no parent hash", SAME, x -> x.parentHash = null, 9);
        leafCode("nothing wrong", SAME, SAME, 0);
        inGroup("leaves of paths", f -> {
            List<Object> none = List.of();
            code("another's key", f.commit(0, 2, none, f.path(0, 2, none, SAME, x -> {
                x.member = 1;
                x.signatureKey = f.m.signatureKey[1];
                x.signatureSecret = f.secretOf(1);
            })), f, 0, 9);
            code("another's signature key", f.commit(0, 2, none, f.path(0, 2, none, SAME, x -> {
                x.signatureKey = f.m.signatureKey[1];
                x.signatureSecret = f.secretOf(1);
            })), f, 0, 9);
        });
        inGroup("keys of leaves of paths", f -> {
            List<Object> none = List.of();
            code("a key that another leaf has", f.commit(0, 2, none, f.path(0, 2, none, SAME,
                    x -> x.leafKey = f.state(0).tree.leaf(1).key())), f, 0, 9);
            code("a key that leaf 0 has", f.commit(0, 2, none, f.path(0, 2, none, SAME,
                    x -> x.leafKey = f.state(0).tree.leaf(0).key())), f, 0, 9);
            code("a key that it has already", f.commit(0, 2, none, f.path(0, 2, none, SAME,
                    x -> x.leafKey = f.state(0).tree.leaf(2).key())), f, 0, 9);
            code("a key that a node has", f.commit(0, 2, none, f.path(0, 2, none, SAME,
                    x -> x.leafKey = f.state(0).tree.nodes.get(3).key)), f, 0, 9);
        });
        inGroup("parent hashes", f -> {
            List<Object> none = List.of();
            code("another parent hash", f.commit(0, 2, none, f.path(0, 2, none, SAME,
                    x -> x.parentHash = f.m.hash(List.of()))), f, 0, 9);
            code("a key changed behind the parent hash", f.commit(0, 2, none, f.path(0, 2, none, SAME,
                    x -> x.keys.set(1, f.m.pub(f.p.forgedName())))), f, 0, 9);
            Model.T removedKey = f.state(0).tree.leaf(1).key();
            List<Object> remove = Forger.byContent(Forger.remove(1));
            code("the key of a leaf that is removed", f.commit(0, 2, remove, f.path(0, 2, remove, SAME,
                    x -> x.leafKey = removedKey)), f, 0, 0);
        });
    }

    private static void opening() {
        inGroup("sealed for another", f -> {
            List<Object> none = List.of();
            code("the reader can't open it", f.commit(0, 2, none, f.path(0, 2, none, SAME,
                    x -> x.sealed.get(1).set(0, f.m.sealed(f.m.signatureKey[0], x.secrets.get(1))))), f, 0, 10);
            code("what others get is not asked", f.commit(0, 2, none, f.path(0, 2, none, SAME,
                    x -> x.sealed.get(0).set(0, f.m.sealed(f.m.signatureKey[0], x.secrets.get(1))))), f, 0, 0);
        });
        inGroup("two terms sealed", f -> {
            Model.T key = f.state(0).tree.nodes.get(1).key;
            int pack = f.p.forge(f.pack(9, key, f.m.pub(f.p.forgedName())));
            f.p.propose(3, 1, pack);
            int welcome = (int) f.p.commit(3, true) + 1;
            Model.T two = f.m.new Reading(f.m.messages.get(welcome)).welcome().joiners().get(0).sealed();
            E.is("it has two terms", two.parts.size(), 3);
            E.is("and is for a key whose secret the reader has", two.part(0) == key);
            List<Object> none = List.of();
            code("what is in it is not one term", f.commit(0, 2, none, f.path(0, 2, none, SAME,
                    x -> x.sealed.get(1).set(0, two))), f, 0, 10);
        });
        sealedForMany();
        inGroup("the first node of the resolution counts", f -> {
            int remove = (int) f.p.propose(3, 3, 2);
            f.p.deliver(remove, 0);
            f.deliverToGroup((int) f.p.commit(3, true), 3);
            E.is("nodes that member 0 knows", f.p.member(0, 12), 3);
            List<Object> none = List.of();
            code("sealed for the node above both", f.commit(0, 3, none, f.path(0, 3, none)), f, 0, 0);
        });
    }

    /** A group without nodes above, so that each leaf has a SEALED of its own. */
    private static void sealedForMany() {
        Forger f = new Forger(new Pair());
        f.p.create(0);
        for (int k = 1; k < 4; k++) {
            f.join(k, 0, false);
        }
        f.compromiseAll();
        List<Object> none = List.of();
        E.is("two are sealed for the left half", f.p.node(1, 1, 4), 2);
        Consumer<Forger.PathParts> firstIsWrong = x ->
            x.sealed.get(1).set(0, f.m.sealed(f.m.signatureKey[0], f.p.forgedName()));
        Consumer<Forger.PathParts> secondIsWrong = x ->
            x.sealed.get(1).set(1, f.m.sealed(f.m.signatureKey[0], x.secrets.get(1)));
        Consumer<Forger.PathParts> secondIsAnother = x ->
            x.sealed.get(1).set(1, f.m.sealed(f.state(1).tree.leaf(1).key(), f.p.forgedName()));
        Consumer<Forger.PathParts> secondIsForFirst = x -> x.sealed.get(1).set(1, x.sealed.get(1).get(0));
        code("its own can't be opened", f.commit(1, 3, none, f.path(1, 3, none, SAME, secondIsWrong)), f, 1, 10);
        code("its own is for another", f.commit(1, 3, none, f.path(1, 3, none, SAME, secondIsForFirst)), f, 1, 10);
        code("its own is another secret", f.commit(1, 3, none, f.path(1, 3, none, SAME, secondIsAnother)), f, 1, 11);
        code("another's can't be opened", f.commit(1, 3, none, f.path(1, 3, none, SAME, firstIsWrong)), f, 1, 0);
        E.is("it has the top", f.p.node(1, 3, 5), 1);
        E.is("and not what is below it", f.p.node(1, 1, 5), 0);
    }

    private static void keys() {
        inGroup("keys and their secrets", f -> {
            List<Object> none = List.of();
            code("the lowest key", f.commit(0, 2, none, f.path(0, 2, none,
                    x -> x.keys.set(1, f.m.pub(f.p.forgedName())), SAME)), f, 0, 11);
            code("a key below is not the reader's to ask", f.commit(0, 2, none, f.path(0, 2, none,
                    x -> x.keys.set(0, f.m.pub(f.p.forgedName())), SAME)), f, 0, 0);
            E.is("it does not have the secret of that", f.p.node(0, 5, 5), 0);
            E.is("but of the top", f.p.node(0, 3, 5), 1);
        });
        inGroup("a secret that is another one", f -> {
            List<Object> none = List.of();
            code("another path secret", f.commit(1, 0, none, f.path(1, 0, none, SAME,
                    x -> x.sealed.get(0).set(0, f.m.sealed(f.state(1).tree.leaf(1).key(), f.p.forgedName())))),
                    f, 1, 11);
            code("a key further up", f.commit(1, 0, none, f.path(1, 0, none,
                    x -> x.keys.set(1, f.m.pub(f.p.forgedName())), SAME)), f, 1, 11);
        });
    }

    private static void confirmations() {
        inGroup("confirmations", f -> {
            List<Object> none = List.of();
            List<Object> c = f.commitHead(0, 2, none, f.path(0, 2, none));
            c.add(f.m.mac(f.m.zero, List.of()));
            c.add(f.m.mac(f.m.membership(f.state(0)), c));
            long epoch = f.p.member(0, 1);
            code("a confirmation of nothing", c, f, 0, 12);
            E.is("nothing changed", f.p.member(0, 1), epoch);
            f.p.lookAt(0);
        });
    }

    private static void removed() {
        inGroup("who is removed is out", f -> {
            List<Object> remove = Forger.byContent(Forger.remove(0));
            List<Object> path = f.path(1, 2, remove);
            List<Object> c = f.commitHead(0, 2, remove, path);
            c.add(f.m.mac(f.m.zero, List.of()));
            c.add(f.m.mac(f.m.membership(f.state(0)), c));
            f.p.offer(0);
            f.p.propose(0, 2, 0);
            f.p.commit(0, true);
            int message = f.p.forge(c);
            E.is("the others ask for the confirmation", f.p.deliver(message, 1), 12);
            E.is("who is removed does not", f.p.deliver(message, 0), 0);
            E.is("it is out", f.p.member(0, 0), 0);
            E.is("it keeps no proposal", f.p.member(0, 8), 0);
            E.is("nor update", f.p.member(0, 9), 0);
            E.is("nor pending commit", f.p.member(0, 11), 0);
            E.is("nor secret", f.p.member(0, 12), 0);
            E.is("but its package", f.p.member(0, 10), 1);
        });
        inGroup("but asks for the path", f -> {
            List<Object> remove = Forger.byContent(Forger.remove(0));
            code("without one", f.commit(0, 2, remove, null), f, 0, 8);
            code("with a wrong leaf", f.commit(0, 2, remove, f.path(0, 2, remove, SAME,
                    x -> x.parentHash = null)), f, 0, 9);
            E.is("it is in", f.p.member(0, 0), 1);
        });
    }

    /** The welcome of member 9, whom member 3 adds. */
    private static List<Object> welcome(Forger f, boolean path) {
        int pack = (int) f.p.offer(9);
        f.p.propose(3, 1, pack);
        return f.m.messages.get((int) f.p.commit(3, path) + 1);
    }

    private static List<Object> signedAgain(Forger f, List<Object> w, int who) {
        int info = f.m.new Reading(w).welcome().infoStart();
        return Forger.with(w, -1, f.m.signed(f.secretOf(who), w.subList(info, w.size() - 1)));
    }

    private static void welcomes() {
        inGroup("welcomes", f -> {
            List<Object> w = welcome(f, false);
            f.p.compromise(9);
            int info = f.m.new Reading(w).welcome().infoStart();
            E.is("for another", f.deliver(w, 10), 13);
            f.p.offer(10);
            E.is("for another who has a package", f.deliver(w, 10), 13);
            code("sealed for another key", Forger.with(w, 4, f.m.sealed(f.m.signatureKey[1],
                    f.p.forgedName())), f, 9, 13);
            code("another tree hash", Forger.with(w, info + 4, f.m.hash(List.of())), f, 9, 14);
        });
        inGroup("senders of welcomes", f -> {
            List<Object> w = welcome(f, false);
            int info = f.m.new Reading(w).welcome().infoStart();
            code("another signs", signedAgain(f, w, 1), f, 9, 4);
            code("a leaf that is not there", Forger.with(w, info + 7, 7), f, 9, 4);
            code("a leaf beyond", Forger.with(w, info + 7, 20), f, 9, 4);
        });
        inGroup("welcomes to another epoch", f -> {
            List<Object> w = welcome(f, false);
            f.p.compromise(9);
            int info = f.m.new Reading(w).welcome().infoStart();
            code("another epoch", signedAgain(f, Forger.with(w, info + 3, 99), 3), f, 9, 12);
            code("another confirmed hash", signedAgain(f, Forger.with(w, info + 5, 0), 3), f, 9, 12);
            code("another confirmation", signedAgain(f, Forger.with(w, -2, f.m.mac(f.m.zero, List.of())), 3), f, 9, 12);
        });
        inGroup("welcomes that are taken", f -> {
            List<Object> w = welcome(f, false);
            E.is("nothing is used", f.p.member(9, 10), 1);
            code("right", w, f, 9, 0);
            E.is("the package is used", f.p.member(9, 10), 0);
            E.is("it knows its leaf alone", f.p.member(9, 12), 1);
            E.is("in the new epoch", f.p.member(9, 1), 4);
        });
        inGroup("the first of its packages counts", f -> {
            f.p.offer(9);
            List<Object> w = welcome(f, false);
            f.p.compromise(9);
            List<Object> joiners = new ArrayList<>(w.subList(3, 5));
            Model.Own first = f.m.members[9].packs.get(0);
            joiners.add(0, f.m.hash(first.pack().signs()));
            joiners.add(1, f.m.sealed(f.m.signatureKey[1], f.p.forgedName()));
            List<Object> two = Forger.signs(4);
            Model.row(two, joiners);
            two.addAll(w.subList(5, w.size()));
            code("the other one is not tried", two, f, 9, 13);
            joiners.set(0, f.m.hash(List.of()));
            two = Forger.signs(4);
            Model.row(two, joiners);
            two.addAll(w.subList(5, w.size()));
            code("what is not its own is passed by", two, f, 9, 0);
            E.is("one package is left", f.p.member(9, 10), 1);
        });
    }

    /** A welcome of the group's tree, changed, with all else right. */
    private static void tree(String what, int want, Consumer<Model.Tree> change) {
        inGroup(what, f -> {
            f.p.offer(9);
            f.p.compromise(9);
            Model.Own own = f.m.members[9].packs.get(0);
            Model.State st = new Model.State();
            st.tree = f.state(0).tree.copy();
            st.epoch = 7;
            Model.Content add = new Model.Content(1, own.pack(), null, -1, List.of());
            f.m.apply(st.tree, List.of(new Model.From(0, add)));
            change.accept(st.tree);
            Model.T joiner = f.p.forgedName();
            Model.T confirmation = f.m.begin(st, joiner);
            List<Object> joiners = Forger.signs(f.m.hash(own.pack().signs()), f.m.sealed(own.pack().init(), joiner));
            code(what, f.m.welcomeSigns(joiners, st, 0, confirmation, f.secretOf(0)), f, 9, want);
        });
    }

    private static void welcomeTrees() {
        tree("nothing wrong", 0, t -> { });
        tree("a node's key", 15, t -> t.nodes.get(3).key = t.nodes.get(1).key);
        tree("a node's parent hash", 15, t -> t.nodes.get(3).parentHash = t.nodes.get(1).parentHash);
        tree("a leaf is unmerged that is not below", 15, t -> t.nodes.get(1).unmerged.add(2));
        tree("a leaf is unmerged that is blank", 15, t -> t.nodes.get(1).unmerged.add(15));
        tree("a leaf is unmerged but not in the node between", 15, t -> t.nodes.get(3).unmerged.add(0));
        tree("its leaf is missing", 15, t -> t.nodes.remove(8));
        tree("two leaves of one member", 15, t -> t.put(5, t.leaf(4)));
        tree("a leaf with a signature for another place", 15, t -> {
            Model.Leaf moved = t.leaf(2);
            t.nodes.keySet().removeIf(n -> n != 0 && n != 8);
            t.put(5, moved);
        });
        tree("without nodes above", 0, t -> t.nodes.keySet().removeIf(n -> n != 0 && n != 8));
        tree("who sends has no leaf", 4, t -> t.nodes.keySet().removeIf(n -> n != 8));
        inGroup("a package that is not the one", f -> {
            f.p.offer(9);
            f.p.offer(9);
            f.p.compromise(9);
            Model.Own one = f.m.members[9].packs.get(0);
            Model.Own other = f.m.members[9].packs.get(1);
            Model.State st = new Model.State();
            st.tree = f.state(0).tree.copy();
            f.m.apply(st.tree, List.of(new Model.From(0, new Model.Content(1, other.pack(), null, -1, List.of()))));
            Model.T joiner = f.p.forgedName();
            Model.T confirmation = f.m.begin(st, joiner);
            List<Object> joiners = Forger.signs(f.m.hash(one.pack().signs()), f.m.sealed(one.pack().init(), joiner));
            code("the leaf of another package", f.m.welcomeSigns(joiners, st, 0, confirmation, f.secretOf(0)), f, 9, 15);
        });
    }

    private static void welcomeSecrets() {
        inGroup("path secrets", f -> {
            List<Object> w = welcome(f, true);
            f.p.compromise(9);
            int info = f.m.new Reading(w).welcome().infoStart();
            E.is("who commits", (Integer) w.get(info + 7), 3);
            code("right, for all that is told", w, f, 9, 0);
            E.is("it knows its leaf and the top", f.p.member(9, 12), 2);
            E.is("the top", f.p.node(9, 7, 5), 1);
            E.is("not the half where it is not", f.p.node(9, 3, 5), 0);
        });
        inGroup("another sender", 3, f -> {
            int pack = (int) f.p.offer(9);
            f.p.propose(0, 1, pack);
            List<Object> w = f.m.messages.get((int) f.p.commit(0, true) + 1);
            f.p.compromise(9);
            int info = f.m.new Reading(w).welcome().infoStart();
            code("from leaf 2, where the node above both is blank",
                    signedAgain(f, Forger.with(w, info + 7, 2), 2), f, 9, 11);
            code("from its own leaf", signedAgain(f, Forger.with(w, info + 7, 3), 9), f, 9, 11);
            code("from leaf 1, for which it is the same", signedAgain(f, Forger.with(w, info + 7, 1), 1), f, 9, 0);
        });
    }

    private static void madeUpGroups() {
        Forger f = new Forger(new Pair());
        f.p.offer(9);
        f.p.compromise(0);
        Model.Own own = f.m.members[9].packs.get(0);
        Model.State st = new Model.State();
        st.tree = new Model.Tree();
        st.tree.d = 3;
        st.epoch = -1;
        st.tree.put(0, f.leaf(0, f.m.pub(f.p.forgedName()), 1, 0));
        st.tree.put(1, own.pack().leaf());
        Model.T joiner = f.p.forgedName();
        Model.T confirmation = f.m.begin(st, joiner);
        List<Object> joiners = Forger.signs(f.m.hash(own.pack().signs()), f.m.sealed(own.pack().init(), joiner));
        code("a group with blank halves", f.m.welcomeSigns(joiners, st, 0, confirmation, f.secretOf(0)), f, 9, 0);
        E.is("epoch 2^32 - 1", f.p.member(9, 1), -1);
        E.is("without a confirmed hash", f.p.member(9, 5), 0);
        E.is("of eight leaves", f.p.member(9, 3), 3);
        int commit = (int) f.p.commit(9, true);
        E.is("its commit", f.p.deliver(commit, 9), 0);
        E.is("makes the tree small", f.p.member(9, 3), 1);
        E.is("and the epoch 0 again", f.p.member(9, 1), 0);
        f.p.lookAt(9);
    }

    /** A tree of four leaves, that of member 0 at a place with a path above, and of member 9 at leaf 2. */
    private static Model.Tree oddTree(Forger f, int place, boolean all, Consumer<Model.Tree> before) {
        Model.Tree t = new Model.Tree();
        t.d = 2;
        t.put(place, f.leaf(0, f.m.pub(f.p.forgedName()), 1, 0));
        t.put(2, f.m.members[9].packs.get(0).pack().leaf());
        before.accept(t);
        List<Model.Counts> counts = new ArrayList<>();
        for (int n : Model.way(t, place)) {
            if (all || n == 3) {
                counts.add(new Model.Counts(n, Model.isBelow(place, Model.left(n)), List.of()));
            }
        }
        List<Model.T> keys = new ArrayList<>();
        for (int k = 0; k < counts.size(); k++) {
            keys.add(f.m.pub(f.p.forgedName()));
        }
        Model.T parentHash = f.m.putPath(t, place, counts, keys);
        t.put(place, f.m.signLeaf(new Model.Leaf(0, f.m.pub(f.p.forgedName()), f.m.signatureKey[0], 3,
                parentHash, null), place, f.secretOf(0)));
        return t;
    }

    private static Forger withPackage() {
        Forger f = new Forger(new Pair());
        f.p.offer(9);
        for (int k = 0; k < 3; k++) {
            f.p.compromise(k);
        }
        return f;
    }

    private static void joinTree(String what, Forger f, Model.Tree t, int leaf, int want) {
        Model.Own own = f.m.members[9].packs.get(0);
        Model.State st = new Model.State();
        st.tree = t;
        Model.T joiner = f.p.forgedName();
        Model.T confirmation = f.m.begin(st, joiner);
        List<Object> joiners = Forger.signs(f.m.hash(own.pack().signs()), f.m.sealed(own.pack().init(), joiner));
        code(what, f.m.welcomeSigns(joiners, st, leaf, confirmation, f.secretOf(0)), f, 9, want);
    }

    private static void odd(String what, int want, int place, boolean all, Consumer<Model.Tree> before,
            Consumer<Model.Tree> then) {
        Forger f = withPackage();
        Model.Tree t = oddTree(f, place, all, before);
        then.accept(t);
        joinTree(what, f, t, place, want);
    }


    private static void madeUpTrees() {
        Consumer<Model.Tree> same = t -> { };
        odd("one leaf below", 0, 0, false, same, same);
        odd("nodes above blank leaves", 0, 0, true, same, same);
        odd("a blank leaf is unmerged", 15, 0, false, same, t -> t.nodes.get(3).unmerged.add(1));
        odd("leaf 0 is blank and unmerged", 15, 1, false, same, t -> t.nodes.get(3).unmerged.add(0));
        odd("a leaf beyond is unmerged", 15, 0, false, same, t -> t.nodes.get(3).unmerged.add(4));
        odd("its only leaf is unmerged", 15, 0, false, same, t -> t.nodes.get(3).unmerged.add(0));
        odd("the parent hash of a leaf is missing", 15, 1, false, same, t -> {
            Model.Leaf l = t.leaf(1);
            t.put(1, new Model.Leaf(0, l.key(), l.signatureKey(), 1, null, l.signature()));
        });
        twoLeaves("a leaf that came later is unmerged", 0, 0, 1, true, 1, false);
        twoLeaves("a leaf that came later is not unmerged", 15, 0, 1, false, 1, false);
        twoLeaves("the leaf with the hash comes last", 15, 1, 0, false, 1, false);
        twoLeaves("and the other is unmerged", 0, 1, 0, true, 1, false);
        twoLeaves("another leaf of the same member", 15, 0, 1, true, 0, false);
        twoLeaves("another leaf with the same key", 15, 0, 1, true, 1, true);
    }

    /** Member 0 with a path, and another leaf beside it that came later. */
    private static void twoLeaves(String what, int want, int place, int later, boolean isUnmerged, int who,
            boolean isSameKey) {
        Forger f = withPackage();
        Model.Tree t = oddTree(f, place, false, x -> { });
        Model.T key = isSameKey ? t.leaf(place).key() : f.m.pub(f.p.forgedName());
        t.put(later, f.leaf(who, key, 1, 0));
        if (isUnmerged) {
            t.nodes.get(3).unmerged.add(later);
        }
        joinTree(what, f, t, place, want);
    }

    private static void oddTrees() {
        Forger f = withPackage();
        Model.Leaf other = f.leaf(1, f.m.pub(f.p.forgedName()), 1, 0);
        Model.Tree t = oddTree(f, 0, true, x -> x.put(1, other));
        t.nodes.get(3).unmerged.add(1);
        joinTree("unmerged above, but not between", f, t, 0, 15);
        t.nodes.get(3).unmerged.clear();
        joinTree("unmerged nowhere", f, t, 0, 0);

        Forger k = withPackage();
        Model.Tree blind = new Model.Tree();
        blind.d = 2;
        blind.put(1, k.m.members[9].packs.get(0).pack().leaf());
        blind.put(2, k.leaf(1, k.m.pub(k.p.forgedName()), 1, 0));
        Model.T blindHash = k.m.putPath(blind, 0, List.of(new Model.Counts(1, true, List.of()),
                new Model.Counts(3, true, List.of())), List.of(k.m.pub(k.p.forgedName()), k.m.pub(k.p.forgedName())));
        blind.put(0, k.m.signLeaf(new Model.Leaf(0, k.m.pub(k.p.forgedName()), k.m.signatureKey[0], 3,
                blindHash, null), 0, k.secretOf(0)));
        joinTree("below a node whose secret it was not told", k, blind, 0, 0);
        E.is("of its leaf alone it has the secret", k.p.member(9, 12), 1);
        k.p.compromise(9);
        code("sealed for the node alone", k.commit(9, 2, List.of(), k.path(9, 2, List.of())), k, 9, 10);

        Forger g = withPackage();
        joinTree("a node above a blank leaf", g, oddTree(g, 0, true, x -> { }), 0, 0);
        int pack = (int) g.p.offer(5);
        g.p.propose(9, 1, pack);
        E.is("who joins", g.p.deliver((int) g.p.commit(9, false), 9), 0);
        E.is("at leaf 1", g.p.node(9, 2, 3), 5);
        E.is("is unmerged in the node of height 1", g.p.node(9, 1, 2), 1);
        E.is("and in that above", g.p.node(9, 3, 2), 1);

        Forger h = withPackage();
        Model.Tree small = new Model.Tree();
        small.d = 2;
        small.put(0, h.leaf(0, h.m.pub(h.p.forgedName()), 1, 0));
        small.put(1, h.m.members[9].packs.get(0).pack().leaf());
        List<Model.Counts> counts = List.of(new Model.Counts(1, true, List.of()), new Model.Counts(3, true, List.of()));
        List<Model.T> keys = List.of(h.m.pub(h.p.forgedName()), h.m.pub(h.p.forgedName()));
        Model.T parentHash = h.m.putPath(small, 0, counts, keys);
        small.put(0, h.m.signLeaf(new Model.Leaf(0, h.m.pub(h.p.forgedName()), h.m.signatureKey[0], 3,
                parentHash, null), 0, h.secretOf(0)));
        joinTree("a node above a blank half", h, small, 0, 0);
        E.is("the top is there", h.p.node(9, 3, 0) > 0);
        for (int who = 5; who < 7; who++) {
            h.p.propose(9, 1, (int) h.p.offer(who));
        }
        E.is("the half goes and comes again", h.p.deliver((int) h.p.commit(9, false), 9), 0);
        E.is("of four leaves", h.p.member(9, 3), 2);
        E.is("with a blank top", h.p.node(9, 3, 0), 0);
        E.is("and node 1 as it was", h.p.node(9, 1, 0) > 0);
    }

    private static void fullGroups() {
        Forger f = new Forger(new Pair());
        f.p.create(0);
        f.p.create(20);
        for (int k = 1; k < 16; k++) {
            f.p.propose(0, 1, (int) f.p.offer(k));
        }
        int commit = (int) f.p.commit(0, true);
        f.p.deliver(commit, 0);
        f.p.deliver(commit + 1, 1);
        f.p.compromise(1);
        f.p.compromise(0);
        E.is("sixteen leaves", f.p.member(1, 3), 4);
        List<Object> right = f.proposal(1, 0, Forger.remove(16));
        code("a remove of leaf 16 is kept", right, f, 1, 0);
        code("leaf 16 sends", Forger.with(right, 6, 16), f, 1, 3);
        code("leaf 0 removes leaf 16", f.commit(1, 0, Forger.byContent(Forger.remove(16)), null), f, 1, 7);
        f.p.compromise(18);
        code("leaf 0 adds one more", f.commit(1, 0, Forger.byContent(Forger.add(f.pack(18))), null), f, 1, 7);
    }

    private static void keeping() {
        inGroup("proposals are kept once", f -> {
            int first = (int) f.p.propose(1, 3, 2);
            int again = (int) f.p.propose(1, 3, 2);
            E.is("kept by who made them", f.p.member(1, 8), 1);
            f.p.deliver(first, 0);
            f.p.deliver(again, 0);
            f.p.deliver(first, 0);
            E.is("kept by who took them", f.p.member(0, 8), 1);
            for (int leaf = 0; leaf < 16; leaf++) {
                f.p.deliver((int) f.p.propose(1, 3, leaf), 0);
                f.p.deliver((int) f.p.propose(2, 3, leaf), 0);
            }
            E.is("however many there are", f.p.member(0, 8), 32);
            E.is("but it makes no more", f.p.propose(0, 3, 1), Pair.THROWS_STATE);
            int commit = (int) f.p.commit(0, false);
            f.p.deliver(commit, 0);
            E.is("forgotten", f.p.member(0, 8), 0);
        });
    }
}
