import java.util.ArrayList;
import java.util.List;
import java.util.Random;

/** A random run on a pair: groups that grow, change and split, with lost, changed and forged messages. */
final class Chaos {
    final Pair p = new Pair();
    private final Model m = p.m;
    private final Random r;
    private final int population;
    private final boolean isForging;

    Chaos(long seed) {
        r = new Random(seed);
        population = 2 + r.nextInt(r.nextInt(3) == 0 ? 23 : 7);
        isForging = r.nextInt(3) > 0;
    }

    void run(int calls) {
        p.create(r.nextInt(population));
        while (p.log.size() < calls) {
            try {
                step();
            } catch (Pair.Unforgeable e) {
                p.clearTape();
            }
        }
    }

    private boolean chance(int percent) {
        return r.nextInt(100) < percent;
    }

    private <A> A pick(List<A> list) {
        return list.get(r.nextInt(list.size()));
    }

    private List<Integer> members(boolean in) {
        List<Integer> list = new ArrayList<>();
        for (int k = 0; k < population; k++) {
            if (k < 24 && (m.members[k].state != null) == in) {
                list.add(k);
            }
        }
        return list;
    }

    private int anyMember() {
        return chance(3) ? r.nextInt(28) - 2 : r.nextInt(Math.min(24, population));
    }

    private int anyMessage() {
        int n = m.messages.size();
        if (chance(3) || n == 0) {
            return r.nextInt(n + 3) - 1;
        }
        return chance(70) ? n - 1 - r.nextInt(Math.min(n, 8)) : r.nextInt(n);
    }

    private int anyTerm() {
        return r.nextInt(m.numbered.size() + 2) - (chance(5) ? 1 : 0);
    }

    private void step() {
        int dice = r.nextInt(100);
        if (dice < 3) {
            p.create(anyMember());
        } else if (dice < 14) {
            grow();
        } else if (dice < 24) {
            proposeSome();
        } else if (dice < 36) {
            commitAndDeliver();
        } else if (dice < 44) {
            p.deliver(anyMessage(), anyMember());
        } else if (dice < 50) {
            tamper();
        } else if (dice < 52) {
            p.compromise(anyMember());
        } else if (dice < 60) {
            makeSome();
        } else if (dice < 72) {
            look();
        } else if (isForging) {
            forge();
        } else {
            commitAndDeliver();
        }
    }

    private void grow() {
        List<Integer> in = members(true);
        List<Integer> out = members(false);
        if (in.isEmpty() || out.isEmpty()) {
            return;
        }
        for (int k = r.nextInt(4); k >= 0; k--) {
            int who = chance(95) ? pick(out) : pick(in);
            long pack = p.offer(who);
            if (pack >= 0) {
                deliverToMost(p.propose(pick(in), 1, (int) pack), 90);
            }
        }
    }

    private void proposeSome() {
        List<Integer> in = members(true);
        int who = in.isEmpty() || chance(5) ? anyMember() : pick(in);
        int kind = chance(3) ? r.nextInt(6) - 1 : 1 + r.nextInt(3);
        int of = kind == 1 ? anyMessage() : kind == 3 ? r.nextInt(chance(10) ? 18 : 5) : r.nextInt(3);
        deliverToMost(p.propose(who, kind, of), 85);
    }

    private void deliverToMost(long message, int percent) {
        if (message < 0) {
            return;
        }
        for (int k = 0; k < 24 && k < population; k++) {
            boolean isWelcome = m.messages.get((int) message).indexOf(4) == 0;
            boolean isUseless = isWelcome == (m.members[k].state != null);
            if (chance(isUseless ? 5 : percent)) {
                p.deliver((int) message, k);
            }
        }
    }

    private void commitAndDeliver() {
        List<Integer> in = members(true);
        int who = in.isEmpty() || chance(3) ? anyMember() : pick(in);
        long before = m.messages.size();
        long message = p.commit(who, chance(50));
        if (message < 0 || chance(10)) {
            return;
        }
        if (chance(90)) {
            p.deliver((int) message, who);
        }
        for (long k = before; k < m.messages.size(); k++) {
            deliverToMost(k, chance(80) ? 100 : 60);
        }
        if (chance(25)) {
            p.lookAt(r.nextInt(Math.min(24, population)));
        }
    }

    private void tamper() {
        if (m.messages.isEmpty()) {
            return;
        }
        p.clearTape();
        int message = Math.max(0, Math.min(m.messages.size() - 1, anyMessage()));
        int size = m.messages.get(message).size();
        int at = size == 0 ? 0 : r.nextInt(size);
        p.copy(message, 0, at);
        switch (r.nextInt(5)) {
            case 0 -> {
                p.feed(r.nextInt(), r.nextInt(5) << 24, 0, 0, 0);
                p.end(1);
                p.copy(message, at + 1, 2000);
            }
            case 1 -> {
                p.place(anyTermNumber());
                p.copy(message, at + 1, 2000);
            }
            case 2 -> p.copy(message, at + 1, 2000);
            case 3 -> {
                p.copy(message, at, 1);
                p.copy(message, at, 2000);
            }
            default -> p.copy(message, at, r.nextInt(20));
        }
        deliverToMost(p.post(), 20);
    }

    private int anyTermNumber() {
        return 1 + r.nextInt(m.numbered.size());
    }

    private void makeSome() {
        if (chance(60)) {
            p.feed(r.nextInt(), r.nextInt(), r.nextInt(), r.nextInt(), r.nextInt());
            p.end(r.nextInt(24) - 2);
        }
        if (chance(40)) {
            p.place(anyTerm());
        }
        if (chance(20)) {
            p.copy(anyMessage(), r.nextInt(30) - 1, r.nextInt(100) - 1);
        }
        if (chance(5)) {
            p.copy(anyMessage(), 0, 400);
        }
        p.make(r.nextInt(10) - 1, anyTerm(), chance(50) ? anyTerm() : r.nextInt(12) - 1);
        if (chance(5)) {
            p.post();
        }
    }

    private void look() {
        p.count(r.nextInt(6) - 1);
        p.isKnown(anyTerm());
        p.term(anyTerm(), r.nextInt(7) - 1);
        p.ofTerm(anyTerm(), r.nextInt(20) - 1);
        p.message(anyMessage());
        p.sign(anyMessage(), r.nextInt(60) - 1);
        p.member(anyMember(), r.nextInt(15) - 1);
        p.node(anyMember(), r.nextInt(chance(50) ? 8 : 33) - 1, r.nextInt(8) - 1);
    }

    // ---- forging

    private void forge() {
        for (int k = 0; k < 24 && k < population; k++) {
            if (chance(30)) {
                p.compromise(k);
            }
        }
        switch (r.nextInt(6)) {
            case 0 -> forgePackage();
            case 1 -> forgeProposal();
            case 2, 3 -> forgeCommit();
            case 4 -> forgeWelcome();
            default -> changeWelcome();
        }
    }

    private Model.T anyOf(int sort) {
        List<Model.T> list = new ArrayList<>();
        for (Model.T t : m.numbered) {
            if (t.sort == sort && m.knows(t)) {
                list.add(t);
            }
        }
        return list.isEmpty() ? m.zero : pick(list);
    }

    private Model.T someKey() {
        return chance(60) ? m.pub(p.forgedName()) : anyOf(Model.PUBLIC);
    }

    /** A LEAF of a member that may have something wrong. */
    private Model.Leaf someLeaf(int who, Model.T key, int source, Model.T parentHash, int number) {
        int said = chance(3) ? r.nextInt(40) : who;
        Model.T signatureKey = m.signatureKey[chance(3) ? r.nextInt(24) : who];
        Model.Leaf leaf = new Model.Leaf(said, key, signatureKey, source, parentHash, null);
        int at = chance(3) ? r.nextInt(4) : number;
        return m.signLeaf(leaf, at, m.signatureSecret[chance(3) ? r.nextInt(24) : who]);
    }

    private List<Object> somePackage() {
        int who = r.nextInt(Math.min(24, population));
        Model.T key = someKey();
        Model.T init = chance(8) ? key : someKey();
        int source = chance(2) ? 2 : 1;
        return m.packSigns(init, someLeaf(who, key, source, null, 0),
                m.signatureSecret[chance(3) ? r.nextInt(24) : who]);
    }

    private void forgePackage() {
        int message = p.forge(somePackage());
        if (message < 0) {
            return;
        }
        p.deliver(message, r.nextInt(24));
        List<Integer> in = members(true);
        if (!in.isEmpty()) {
            deliverToMost(p.propose(pick(in), 1, message), 90);
        }
    }

    private List<Object> someContent(Model.State st, int leaf) {
        List<Object> c = new ArrayList<>();
        int kind = 1 + r.nextInt(3);
        c.add(kind);
        if (kind == 1) {
            Model.row(c, somePackage());
        } else if (kind == 2) {
            int at = chance(80) ? leaf : r.nextInt(4);
            Model.Leaf there = st.tree.leaf(at);
            int who = there == null || chance(10) ? r.nextInt(24) : there.member();
            c.addAll(Model.leafSigns(someLeaf(who, someKey(), chance(3) ? 3 : 2, null, at)));
        } else {
            Model.u16(c, r.nextInt(chance(10) ? 300 : 6));
        }
        return c;
    }

    private int someLeafOf(Model.State st) {
        List<Integer> leaves = new ArrayList<>();
        for (int k = 0; k < 1 << st.tree.d; k++) {
            if (st.tree.leaf(k) != null) {
                leaves.add(k);
            }
        }
        return chance(3) || leaves.isEmpty() ? r.nextInt(300) : pick(leaves);
    }

    private void forgeProposal() {
        List<Integer> in = members(true);
        if (in.isEmpty()) {
            return;
        }
        int reader = pick(in);
        p.compromise(reader);
        Model.State st = m.members[reader].state;
        int leaf = someLeafOf(st);
        Model.Leaf sender = st.tree.leaf(leaf);
        int who = sender == null || chance(3) ? r.nextInt(24) : sender.member();
        p.compromise(who);
        List<Object> s = m.proposalSigns(st, leaf, someContent(st, leaf), m.signatureSecret[who]);
        if (chance(5)) {
            s.set(s.size() - 1, anyOf(Model.MAC));
        }
        int message = p.forge(s);
        deliverToMost(message, 80);
    }

    private void forgeCommit() {
        List<Integer> in = members(true);
        if (in.isEmpty()) {
            return;
        }
        int reader = pick(in);
        p.compromise(reader);
        Model.Member me = m.members[reader];
        Model.State st = me.state;
        int leaf = someLeafOf(st);
        Model.Leaf sender = st.tree.leaf(leaf);
        if (sender == null) {
            return;
        }
        p.compromise(sender.member());
        List<Object> entries = new ArrayList<>();
        List<Model.From> list = new ArrayList<>();
        for (Model.T hash : me.proposals.keySet()) {
            Model.Proposal q = me.proposals.get(hash);
            list.add(new Model.From(q.leaf(), q.content()));
            if (chance(75) && (m.areRight(st.tree, leaf, list) || chance(5))) {
                entries.add(1);
                entries.add(hash);
            } else {
                list.remove(list.size() - 1);
            }
        }
        if (chance(25)) {
            addContent(st, leaf, entries, list);
        }
        if (chance(3)) {
            entries.add(1);
            entries.add(anyOf(Model.HASH));
        }
        List<Object> s = new ArrayList<>();
        s.add(3);
        Model.u32(s, st.epoch);
        Model.u16(s, leaf);
        Model.row(s, entries);
        boolean mustPath = list.isEmpty() || list.stream().anyMatch(f -> f.content().kind() != 1);
        if (mustPath && !chance(4) || chance(40)) {
            s.add(1);
            s.addAll(m.areRight(st.tree, leaf, list) ? somePath(st, leaf, list) : emptyPath(sender, leaf));
        } else {
            s.add(0);
        }
        finishCommit(reader, s, st, sender);
    }

    private void addContent(Model.State st, int leaf, List<Object> entries, List<Model.From> list) {
        List<Object> content = someContent(st, leaf);
        try {
            for (Object o : content) {
                if (o instanceof Model.T t) {
                    p.number(t);
                }
            }
            Model.Content read = m.new Reading(content).content();
            entries.add(2);
            entries.addAll(content);
            list.add(new Model.From(leaf, read));
        } catch (Model.Wrong w) {
            entries.add(2);
            entries.addAll(content);
        }
    }

    private List<Object> emptyPath(Model.Leaf sender, int leaf) {
        List<Object> s = new ArrayList<>();
        s.addAll(Model.leafSigns(m.signLeaf(new Model.Leaf(sender.member(), m.pub(p.forgedName()),
                sender.signatureKey(), 3, null, null), leaf, m.signatureSecret[sender.member()])));
        Model.row(s, List.of());
        return s;
    }

    private List<Object> somePath(Model.State st, int leaf, List<Model.From> list) {
        Model.Tree tree = st.tree.copy();
        int[] places = m.apply(tree, list);
        Model.Tree behind = tree.copy();
        List<Model.Counts> counts = m.counting(tree, leaf, places);
        List<Model.T> secrets = new ArrayList<>();
        List<Model.T> keys = new ArrayList<>();
        for (int k = 0; k < counts.size(); k++) {
            secrets.add(k == 0 || chance(2) ? p.forgedName() : m.derived(secrets.get(k - 1), 4));
            keys.add(chance(3) ? anyOf(Model.PUBLIC) : m.pub(m.derived(secrets.get(k), 5)));
        }
        keys.replaceAll(k -> k.sort == Model.PUBLIC ? k : m.signatureKey[0]);
        Model.T parentHash = m.putPath(tree, leaf, counts, keys);
        if (chance(3)) {
            parentHash = chance(50) ? null : anyOf(Model.HASH);
        }
        if (parentHash == m.zero) {
            parentHash = null;
        }
        Model.T key = m.pub(p.forgedName());
        if (chance(4)) {
            List<Integer> nodes = new ArrayList<>(behind.nodes.keySet());
            key = behind.nodes.get(pick(nodes)).key;
        }
        int who = chance(2) ? r.nextInt(24) : behind.leaf(leaf).member();
        List<Object> s = new ArrayList<>(Model.leafSigns(someLeaf(who, key, 3, parentHash, leaf)));
        List<Object> nodes = new ArrayList<>();
        for (int k = 0; k < counts.size() - (chance(2) ? 1 : 0); k++) {
            nodes.add(keys.get(k));
            List<Object> sealed = new ArrayList<>();
            for (int n : counts.get(k).sealedFor()) {
                Model.T to = chance(3) ? someKey() : behind.nodes.get(n).key;
                Model.T one = chance(3) ? anyOf(Model.SEALED) : m.sealed(to, secrets.get(k));
                sealed.add(one);
            }
            if (chance(2)) {
                sealed.add(m.sealed(keys.get(k), secrets.get(k)));
            }
            Model.row(nodes, sealed);
        }
        Model.row(s, nodes);
        return s;
    }

    private void finishCommit(int reader, List<Object> s, Model.State st, Model.Leaf sender) {
        Model.T by = m.signatureSecret[chance(2) ? r.nextInt(24) : sender.member()];
        s.add(m.signed(by, Model.plus(s, m.context(st))));
        List<Object> tried = new ArrayList<>(s);
        tried.add(m.mac(m.zero, List.of()));
        tried.add(m.mac(m.membership(st), tried));
        for (Object o : tried) {
            if (o instanceof Model.T t) {
                p.number(t);
            }
        }
        int code = m.take(tried, reader, true);
        Model.T confirmation = code == 12 && !chance(3) ? m.wantedConfirmation : m.mac(m.zero, List.of());
        s.add(confirmation);
        s.add(chance(2) ? m.mac(m.zero, s) : m.mac(m.membership(st), s));
        int message = p.forge(s);
        if (message >= 0) {
            p.deliver(message, reader);
            deliverToMost(message, 50);
            if (chance(30)) {
                p.lookAt(reader);
            }
        }
    }

    /** A group that the intruder made up, for a member that is OUT and has a PACKAGE. */
    private void forgeWelcome() {
        List<Integer> out = members(false);
        if (out.isEmpty()) {
            return;
        }
        int joins = pick(out);
        if (m.members[joins].packs.isEmpty()) {
            p.offer(joins);
        }
        if (m.members[joins].packs.isEmpty()) {
            return;
        }
        Model.Own own = pick(m.members[joins].packs);
        Model.State st = new Model.State();
        st.epoch = chance(20) ? r.nextInt() : r.nextInt(4);
        st.tree = new Model.Tree();
        st.tree.d = r.nextInt(4);
        int leaves = 1 << st.tree.d;
        int place = r.nextInt(leaves);
        int leaf = r.nextInt(leaves);
        fillTree(st.tree, place, own, leaf);
        Model.Leaf sender = st.tree.leaf(leaf);
        int who = sender == null || sender.member() > 23 ? r.nextInt(24) : sender.member();
        p.compromise(who);
        st.confirmed = chance(30) ? null : m.hash(List.of(r.nextInt(256)));
        Model.T joiner = p.forgedName();
        Model.T confirmation = m.begin(st, joiner);
        if (chance(3)) {
            st.treeHash = m.hash(List.of());
        }
        if (chance(3)) {
            confirmation = m.mac(m.zero, List.of());
        }
        List<Object> joiners = new ArrayList<>();
        if (chance(10)) {
            joiners.add(m.hash(List.of(7)));
            joiners.add(m.sealed(own.pack().init(), joiner));
        }
        joiners.add(m.hash(own.pack().signs()));
        joiners.add(m.sealed(chance(3) ? someKey() : own.pack().init(), joiner));
        int message = p.forge(m.welcomeSigns(joiners, st, leaf, confirmation, m.signatureSecret[who]));
        if (message >= 0) {
            p.deliver(message, joins);
            deliverToMost(message, 20);
            p.lookAt(joins);
        }
    }

    private void fillTree(Model.Tree tree, int place, Model.Own own, int leaf) {
        int leaves = 1 << tree.d;
        for (int k = 0; k < leaves; k++) {
            int who = r.nextInt(24);
            if (chance(45) && (chance(10) || who != own.pack().leaf().member())) {
                p.compromise(who);
                tree.put(k, someLeaf(who, m.pub(p.forgedName()), 1 + r.nextInt(2), null, k));
            }
        }
        if (!chance(3)) {
            tree.put(place, own.pack().leaf());
        }
        for (int turn = r.nextInt(3); turn >= 0; turn--) {
            int at = r.nextInt(leaves);
            Model.Leaf old = tree.leaf(at);
            if (old == null || old.member() > 23 || at == place && !chance(5)) {
                continue;
            }
            p.compromise(old.member());
            List<Model.Counts> counts = m.counting(tree, at, new int[0]);
            if (chance(30)) {
                // Nodes above leaves that are blank: who commits never makes them, but they may be sound.
                counts = new ArrayList<>();
                for (int n : Model.way(tree, at)) {
                    counts.add(new Model.Counts(n, Model.isBelow(at, Model.left(n)), List.of()));
                }
            }
            List<Model.T> keys = new ArrayList<>();
            for (int k = 0; k < counts.size(); k++) {
                keys.add(m.pub(p.forgedName()));
            }
            Model.T parentHash = m.putPath(tree, at, counts, keys);
            tree.put(at, m.signLeaf(new Model.Leaf(old.member(), m.pub(p.forgedName()), old.signatureKey(),
                    3, parentHash, null), at, m.signatureSecret[old.member()]));
        }
        if (chance(30)) {
            int who = r.nextInt(24);
            p.compromise(who);
            addLeaf(tree, someLeaf(who, m.pub(p.forgedName()), 1, null, 0));
        }
        if (chance(10)) {
            spoil(tree);
        }
    }

    private void addLeaf(Model.Tree tree, Model.Leaf leaf) {
        for (int k = 0; k < 1 << tree.d; k++) {
            if (tree.leaf(k) == null) {
                tree.put(k, leaf);
                for (int n : Model.way(tree, k)) {
                    if (tree.nodes.containsKey(n)) {
                        tree.nodes.get(n).unmerged.add(k);
                    }
                }
                return;
            }
        }
    }

    private void spoil(Model.Tree tree) {
        List<Integer> parents = new ArrayList<>(tree.nodes.keySet());
        parents.removeIf(n -> n % 2 == 0);
        if (parents.isEmpty()) {
            return;
        }
        Model.Node node = tree.nodes.get(pick(parents));
        switch (r.nextInt(5)) {
            case 0 -> node.key = m.pub(p.forgedName());
            case 1 -> node.parentHash = m.hash(List.of());
            case 2 -> node.unmerged.add(r.nextInt(16));
            case 3 -> node.unmerged.pollFirst();
            default -> tree.nodes.remove(pick(parents));
        }
    }

    /** A WELCOME that a member made, with another sender or another thing in INFO, signed anew. */
    private void changeWelcome() {
        List<Integer> all = new ArrayList<>();
        for (int k = 0; k < m.messages.size(); k++) {
            if (!m.messages.get(k).isEmpty() && m.messages.get(k).get(0).equals(4)) {
                all.add(k);
            }
        }
        if (all.isEmpty()) {
            return;
        }
        List<Object> s = m.messages.get(pick(all));
        Model.Welcome w;
        try {
            w = m.new Reading(s).welcome();
        } catch (Model.Wrong e) {
            return;
        }
        Model.State st = new Model.State();
        st.epoch = chance(5) ? 3 : w.epoch();
        st.treeHash = w.treeHash();
        st.confirmed = w.confirmed();
        st.tree = w.tree();
        st.leaf = 0;
        if (chance(10)) {
            spoil(st.tree);
            st.treeHash = m.topHash(st.tree);
        }
        int leaf = someLeafOf(st);
        Model.Leaf sender = st.tree.leaf(leaf);
        int who = sender == null || sender.member() > 23 ? 0 : sender.member();
        p.compromise(who);
        List<Object> joiners = new ArrayList<>(s.subList(3, w.infoStart()));
        int message = p.forge(m.welcomeSigns(joiners, st, leaf, w.confirmation(), m.signatureSecret[who]));
        deliverToMost(message, 100);
    }
}
