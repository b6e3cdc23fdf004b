import java.util.ArrayList;
import java.util.Arrays;
import java.util.List;
import java.util.function.Consumer;

/** Messages that are right but for one thing, made by an intruder who knows what it needs. */
final class Forger {
    /** A PATH with what may be changed in it. */
    static final class PathParts {
        int member;
        Model.T leafKey;
        Model.T signatureKey;
        Model.T signatureSecret;
        int signedNumber;
        Model.T parentHash;
        List<Model.T> keys = new ArrayList<>();
        List<Model.T> secrets = new ArrayList<>();
        List<List<Object>> sealed = new ArrayList<>();
    }

    final Pair p;
    final Model m;

    Forger(Pair p) {
        this.p = p;
        m = p.m;
    }

    /** A group of the members 0 .. n - 1 at the leaves of their numbers, made with a PATH each. */
    static Forger group(int n) {
        Forger f = new Forger(new Pair());
        f.p.create(0);
        for (int k = 1; k < n; k++) {
            f.join(k, k - 1, true);
        }
        return f;
    }

    void join(int who, int by, boolean path) {
        int pack = (int) p.offer(who);
        p.propose(by, 1, pack);
        int commit = (int) p.commit(by, path);
        deliverToGroup(commit, by);
        p.deliver(commit + 1, who);
    }

    void deliverToGroup(int message, int first) {
        p.deliver(message, first);
        for (int k = 0; k < 24; k++) {
            if (k != first && m.members[k].state != null) {
                p.deliver(message, k);
            }
        }
    }

    void compromiseAll() {
        for (int k = 0; k < 24; k++) {
            p.compromise(k);
        }
    }

    Model.State state(int who) {
        return m.members[who].state;
    }

    Model.T secretOf(int who) {
        return m.signatureSecret[who];
    }

    static List<Object> signs(Object... s) {
        return new ArrayList<>(Arrays.asList(s));
    }

    // ---- contents

    static List<Object> add(List<Object> pack) {
        List<Object> c = signs(1);
        Model.row(c, pack);
        return c;
    }

    static List<Object> update(Model.Leaf leaf) {
        List<Object> c = signs(2);
        c.addAll(Model.leafSigns(leaf));
        return c;
    }

    static List<Object> remove(int leaf) {
        List<Object> c = signs(3);
        Model.u16(c, leaf);
        return c;
    }

    List<Object> pack(int who) {
        return pack(who, m.pub(p.forgedName()), m.pub(p.forgedName()));
    }

    List<Object> pack(int who, Model.T init, Model.T key) {
        return m.packSigns(init, leaf(who, key, 1, 0), secretOf(who));
    }

    Model.Leaf leaf(int who, Model.T key, int source, int number) {
        return m.signLeaf(new Model.Leaf(who, key, m.signatureKey[who], source, null, null), number, secretOf(who));
    }

    Model.Leaf freshUpdate(int who, int number) {
        return leaf(who, m.pub(p.forgedName()), 2, number);
    }

    // ---- messages

    List<Object> proposal(int reader, int leaf, List<Object> content) {
        int who = state(reader).tree.leaf(leaf).member();
        return m.proposalSigns(state(reader), leaf, content, secretOf(who));
    }

    List<Object> byHash(int message) {
        return signs(1, m.hash(m.messages.get(message)));
    }

    static List<Object> byContent(List<Object> content) {
        return Model.plus(signs(2), content);
    }

    @SafeVarargs
    static List<Object> join(List<Object>... parts) {
        List<Object> s = new ArrayList<>();
        for (List<Object> part : parts) {
            s.addAll(part);
        }
        return s;
    }

    List<Model.From> listOf(int reader, int committer, List<Object> entries) {
        List<Model.From> list = new ArrayList<>();
        makeKnown(entries);
        Model.Reading r = m.new Reading(entries);
        while (r.more()) {
            if (r.u8() == 1) {
                Model.Proposal q = m.members[reader].proposals.get(r.term(Model.HASH));
                list.add(new Model.From(q.leaf(), q.content()));
            } else {
                list.add(new Model.From(committer, r.content()));
            }
        }
        return list;
    }

    /** A PATH that is right, but for what is changed ahead of its parent hashes, and behind them. */
    List<Object> path(int reader, int leaf, List<Object> entries, Consumer<PathParts> first, Consumer<PathParts> then) {
        Model.Tree tree = state(reader).tree.copy();
        int[] places = m.apply(tree, listOf(reader, leaf, entries));
        List<Model.Counts> counts = m.counting(tree, leaf, places);
        PathParts parts = new PathParts();
        parts.member = tree.leaf(leaf).member();
        parts.leafKey = m.pub(p.forgedName());
        parts.signatureKey = m.signatureKey[parts.member];
        parts.signatureSecret = secretOf(parts.member);
        parts.signedNumber = leaf;
        for (int k = 0; k < counts.size(); k++) {
            parts.secrets.add(k == 0 ? p.forgedName() : m.derived(parts.secrets.get(k - 1), 4));
            parts.keys.add(m.pub(m.derived(parts.secrets.get(k), 5)));
            List<Object> sealed = new ArrayList<>();
            for (int n : counts.get(k).sealedFor()) {
                sealed.add(m.sealed(tree.nodes.get(n).key, parts.secrets.get(k)));
            }
            parts.sealed.add(sealed);
        }
        first.accept(parts);
        parts.parentHash = m.putPath(tree, leaf, counts, parts.keys);
        then.accept(parts);
        Model.Leaf made = m.signLeaf(new Model.Leaf(parts.member, parts.leafKey, parts.signatureKey, 3,
                parts.parentHash, null), parts.signedNumber, parts.signatureSecret);
        List<Object> nodes = new ArrayList<>();
        for (int k = 0; k < parts.sealed.size(); k++) {
            nodes.add(parts.keys.get(k));
            Model.row(nodes, parts.sealed.get(k));
        }
        List<Object> s = Model.leafSigns(made);
        Model.row(s, nodes);
        return s;
    }

    List<Object> path(int reader, int leaf, List<Object> entries) {
        return path(reader, leaf, entries, x -> { }, x -> { });
    }

    /** A COMMIT up to its path, which may be null, with the signature behind. */
    List<Object> commitHead(int reader, int leaf, List<Object> entries, List<Object> path) {
        Model.State st = state(reader);
        List<Object> s = signs(3);
        Model.u32(s, st.epoch);
        Model.u16(s, leaf);
        Model.row(s, entries);
        s.add(path == null ? 0 : 1);
        if (path != null) {
            s.addAll(path);
        }
        Model.Leaf sender = st.tree.leaf(leaf);
        Model.T by = sender == null ? secretOf(0) : secretOf(sender.member());
        s.add(m.signed(by, Model.plus(s, m.context(st))));
        return s;
    }

    /** Puts some confirmation and a tag that is right for the reader behind. */
    List<Object> commitEnd(int reader, List<Object> head) {
        List<Object> s = new ArrayList<>(head);
        s.add(m.mac(m.zero, List.of()));
        s.add(m.mac(m.membership(state(reader)), s));
        return s;
    }

    /** Puts a confirmation that is right for the reader, if there is one, and a tag behind. */
    List<Object> commit(int reader, int leaf, List<Object> entries, List<Object> path) {
        List<Object> s = commitHead(reader, leaf, entries, path);
        List<Object> tried = commitEnd(reader, s);
        makeKnown(tried);
        int code = m.take(tried, reader, true);
        s.add(code == 12 ? m.wantedConfirmation : m.mac(m.zero, List.of()));
        s.add(m.mac(m.membership(state(reader)), s));
        return s;
    }

    void makeKnown(List<Object> s) {
        for (Object o : s) {
            if (o instanceof Model.T t) {
                p.number(t);
            }
        }
    }

    long deliver(List<Object> s, int who) {
        return p.deliver(p.forge(s), who);
    }

    static List<Object> with(List<Object> s, int k, Object sign) {
        List<Object> t = new ArrayList<>(s);
        t.set(k < 0 ? t.size() + k : k, sign);
        return t;
    }
}
