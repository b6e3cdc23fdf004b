import java.util.ArrayList;
import java.util.Arrays;
import java.util.HashMap;
import java.util.HashSet;
import java.util.LinkedHashMap;
import java.util.LinkedHashSet;
import java.util.List;
import java.util.Map;
import java.util.Set;
import java.util.TreeSet;

/**
 * The document once more, written another way than the class: slow, with the library, with terms
 * as objects and trees by recursion. Tests compare the class with it call by call, and forge
 * messages with it.
 */
final class Model {
    static final int NAME = 0, HASH = 1, MAC = 2, DERIVED = 3, MIXED = 4, PUBLIC = 5, SEALED = 6, SIGNED = 7;

    static final class T {
        final int sort;
        final List<T> parts;
        final int label;
        final List<Object> signs;
        int number;

        T(int sort, List<T> parts, int label, List<Object> signs) {
            this.sort = sort;
            this.parts = parts;
            this.label = label;
            this.signs = signs;
        }

        T part(int k) {
            return k < parts.size() ? parts.get(k) : null;
        }
    }

    record Leaf(int member, T key, T signatureKey, int source, T parentHash, T signature) { }

    record Pack(T init, Leaf leaf, T signature, List<Object> signs) { }

    record Content(int kind, Pack pack, Leaf leaf, int remove, List<Object> signs) { }

    record Entry(T hash, Content content) { }

    record PathNode(T key, List<T> sealed) { }

    record Proposal(int epoch, int leaf, Content content, T signature, T tag) { }

    record Commit(int epoch, int leaf, List<Entry> entries, Leaf pathLeaf, List<PathNode> nodes,
            T signature, T confirmation, T tag) { }

    record Joiner(T hash, T sealed) { }

    record Welcome(List<Joiner> joiners, int infoStart, int epoch, T treeHash, T confirmed, int leaf,
            Tree tree, T confirmation, T signature) { }

    record Own(Pack pack, T initSecret, T leafSecret) { }

    record From(int leaf, Content content) { }

    static final class Node {
        T key;
        T parentHash;
        TreeSet<Integer> unmerged = new TreeSet<>();
        Leaf leaf;

        Node copy() {
            Node n = new Node();
            n.key = key;
            n.parentHash = parentHash;
            n.unmerged = new TreeSet<>(unmerged);
            n.leaf = leaf;
            return n;
        }
    }

    static final class Tree {
        int d;
        Map<Integer, Node> nodes = new HashMap<>();

        Tree copy() {
            Tree t = new Tree();
            t.d = d;
            nodes.forEach((k, n) -> t.nodes.put(k, n.copy()));
            return t;
        }

        int size() {
            return (1 << (d + 1)) - 1;
        }

        Leaf leaf(int i) {
            Node n = i >= 0 && i < (1 << d) ? nodes.get(2 * i) : null;
            return n == null ? null : n.leaf;
        }

        void put(int i, Leaf leaf) {
            Node n = new Node();
            n.key = leaf.key;
            n.parentHash = leaf.parentHash;
            n.leaf = leaf;
            nodes.put(2 * i, n);
        }
    }

    static final class State {
        int epoch;
        int leaf;
        Tree tree;
        T confirmed;
        T interim;
        T epochSecret;
        T treeHash;
        Map<Integer, T> secrets = new HashMap<>();
    }

    static final class Member {
        State state;
        State pending;
        List<Object> pendingSigns;
        List<Own> packs = new ArrayList<>();
        LinkedHashMap<T, Proposal> proposals = new LinkedHashMap<>();
        List<T> updates = new ArrayList<>();

        void forget() {
            pending = null;
            pendingSigns = null;
            proposals.clear();
            updates.clear();
        }
    }

    static final class Wrong extends RuntimeException {
        private static final long serialVersionUID = 1;
        final int code;

        Wrong(int code) {
            super(null, null, false, false);
            this.code = code;
        }
    }

    final Map<List<Object>, T> all = new HashMap<>();
    final List<T> numbered = new ArrayList<>();
    final Set<T> had = new LinkedHashSet<>();
    final T zero = new T(NAME, List.of(), 0, List.of());
    final T[] signatureSecret = new T[24];
    final T[] signatureKey = new T[24];
    final Member[] members = new Member[24];
    final List<List<Object>> messages = new ArrayList<>();
    List<Object> tape = new ArrayList<>();
    int[] ready = new int[20];
    T wantedConfirmation;

    Model() {
        had.add(zero);
        tell(zero);
        for (int m = 0; m < 24; m++) {
            members[m] = new Member();
            signatureSecret[m] = name();
            signatureKey[m] = pub(signatureSecret[m]);
            had.add(signatureKey[m]);
            tell(signatureKey[m]);
        }
    }

    // ---- terms

    T name() {
        return new T(NAME, List.of(), 0, List.of());
    }

    T of(int sort, List<T> parts, int label, List<Object> signs) {
        List<T> keptParts = List.copyOf(parts);
        List<Object> keptSigns = List.copyOf(signs);
        return all.computeIfAbsent(List.of(sort, label, keptParts, keptSigns),
                k -> new T(sort, keptParts, label, keptSigns));
    }

    T hash(List<Object> signs) {
        return of(HASH, List.of(), 0, signs);
    }

    T mac(T key, List<Object> signs) {
        return of(MAC, List.of(key), 0, signs);
    }

    T derived(T a, int label, List<Object> signs) {
        return of(DERIVED, List.of(a), label, signs);
    }

    T derived(T a, int label) {
        return derived(a, label, List.of());
    }

    T mixed(T a, T b) {
        return of(MIXED, List.of(a, b), 0, List.of());
    }

    T pub(T a) {
        return of(PUBLIC, List.of(a), 0, List.of());
    }

    T sealed(T key, T... in) {
        List<T> parts = new ArrayList<>();
        parts.add(key);
        parts.addAll(Arrays.asList(in));
        return of(SEALED, parts, 0, List.of());
    }

    T signed(T a, List<Object> signs) {
        return of(SIGNED, List.of(a), 0, signs);
    }

    int tell(T t) {
        if (t == null) {
            return 0;
        }
        if (t.number == 0) {
            numbered.add(t);
            t.number = numbered.size();
        }
        return t.number;
    }

    T byNumber(int n) {
        return n >= 1 && n <= numbered.size() ? numbered.get(n - 1) : null;
    }

    // ---- the intruder

    boolean knows(T t) {
        if (t == null) {
            return false;
        }
        if (had.contains(t)) {
            return true;
        }
        if (t.sort == NAME) {
            return false;
        }
        for (T p : t.parts) {
            if (!knows(p)) {
                return false;
            }
        }
        return true;
    }

    void learn(List<Object> signs) {
        for (Object o : signs) {
            if (o instanceof T t) {
                had.add(t);
            }
        }
        boolean more = true;
        while (more) {
            more = false;
            for (T t : new ArrayList<>(had)) {
                if (t.sort == SEALED && knows(t.part(0).part(0))) {
                    more |= had.add(t.part(1));
                    if (t.part(2) != null) {
                        more |= had.add(t.part(2));
                    }
                }
            }
        }
    }

    int knownCount() {
        int n = 0;
        for (T t : numbered) {
            n += knows(t) ? 1 : 0;
        }
        return n;
    }

    // ---- writing

    static void u16(List<Object> to, int v) {
        to.add(v >> 8 & 255);
        to.add(v & 255);
    }

    static void u32(List<Object> to, int v) {
        u16(to, v >>> 16);
        u16(to, v & 0xffff);
    }

    static void row(List<Object> to, List<Object> in) {
        u16(to, in.size());
        to.addAll(in);
    }

    static Object orZero(T t) {
        return t == null ? (Object) 0 : t;
    }

    static List<Object> leafAhead(Leaf l) {
        List<Object> s = new ArrayList<>();
        u16(s, l.member);
        s.add(l.key);
        s.add(l.signatureKey);
        s.add(l.source);
        if (l.source == 3) {
            s.add(orZero(l.parentHash));
        }
        return s;
    }

    static List<Object> leafSigns(Leaf l) {
        List<Object> s = leafAhead(l);
        s.add(l.signature);
        return s;
    }

    static List<Object> leafSigned(Leaf l, int number) {
        List<Object> s = leafAhead(l);
        if (l.source != 1) {
            u16(s, number);
        }
        return s;
    }

    Leaf makeLeaf(int member, T secret, int source, T parentHash, int number) {
        Leaf l = new Leaf(member, pub(secret), signatureKey[member], source, parentHash, null);
        return signLeaf(l, number, signatureSecret[member]);
    }

    Leaf signLeaf(Leaf l, int number, T by) {
        return new Leaf(l.member, l.key, l.signatureKey, l.source, l.parentHash,
                signed(by, leafSigned(l, number)));
    }

    List<Object> packSigns(T initKey, Leaf leaf, T by) {
        List<Object> s = new ArrayList<>();
        s.add(1);
        s.add(initKey);
        s.addAll(leafSigns(leaf));
        s.add(signed(by, s));
        return s;
    }

    List<Object> context(State st) {
        List<Object> s = new ArrayList<>();
        u32(s, st.epoch);
        s.add(st.treeHash);
        s.add(orZero(st.confirmed));
        return s;
    }

    static List<Object> unmergedRow(Set<Integer> leaves) {
        List<Object> in = new ArrayList<>();
        for (int l : leaves) {
            u16(in, l);
        }
        List<Object> s = new ArrayList<>();
        row(s, in);
        return s;
    }

    static List<Object> treeSigns(Tree t) {
        List<Object> s = new ArrayList<>();
        for (int n = 0; n < t.size(); n++) {
            Node node = t.nodes.get(n);
            if (node == null) {
                s.add(0);
            } else if (node.leaf != null) {
                s.add(1);
                s.addAll(leafSigns(node.leaf));
            } else {
                s.add(2);
                s.add(node.key);
                s.add(orZero(node.parentHash));
                s.addAll(unmergedRow(node.unmerged));
            }
        }
        return s;
    }

    // ---- the tree

    static int height(int n) {
        int h = 0;
        while ((n & 1) == 1) {
            h++;
            n >>= 1;
        }
        return h;
    }

    static int left(int n) {
        return n - (1 << (height(n) - 1));
    }

    static int right(int n) {
        return n + (1 << (height(n) - 1));
    }

    static boolean isBelow(int leaf, int node) {
        if (height(node) == 0) {
            return node == 2 * leaf;
        }
        return isBelow(leaf, left(node)) || isBelow(leaf, right(node));
    }

    static List<Integer> way(Tree t, int leaf) {
        List<Integer> w = new ArrayList<>();
        for (int h = 1; h <= t.d; h++) {
            for (int n = 0; n < t.size(); n++) {
                if (height(n) == h && isBelow(leaf, n)) {
                    w.add(n);
                }
            }
        }
        return w;
    }

    static List<Integer> resolution(Tree t, int n) {
        List<Integer> r = new ArrayList<>();
        Node node = t.nodes.get(n);
        if (node != null) {
            r.add(n);
            for (int l : node.unmerged) {
                r.add(2 * l);
            }
        } else if (height(n) > 0) {
            r.addAll(resolution(t, left(n)));
            r.addAll(resolution(t, right(n)));
        }
        return r;
    }

    T treeHash(Tree t, int n, Set<Integer> without) {
        List<Object> s = new ArrayList<>();
        Node node = t.nodes.get(n);
        if (height(n) == 0) {
            s.add(1);
            u16(s, n / 2);
            if (node == null || without.contains(n / 2)) {
                s.add(0);
            } else {
                s.add(1);
                s.addAll(leafSigns(node.leaf));
            }
        } else {
            s.add(2);
            if (node == null) {
                s.add(0);
            } else {
                s.add(1);
                s.add(node.key);
                s.add(orZero(node.parentHash));
                TreeSet<Integer> u = new TreeSet<>(node.unmerged);
                u.removeAll(without);
                s.addAll(unmergedRow(u));
            }
            s.add(treeHash(t, left(n), without));
            s.add(treeHash(t, right(n), without));
        }
        return hash(s);
    }

    T topHash(Tree t) {
        return treeHash(t, (1 << t.d) - 1, Set.of());
    }

    T wanted(Tree t, int n, boolean onLeft) {
        Node node = t.nodes.get(n);
        return hash(List.of(node.key, orZero(node.parentHash),
                treeHash(t, onLeft ? right(n) : left(n), node.unmerged)));
    }

    boolean isSound(Tree t) {
        for (int n = 0; n < t.size(); n++) {
            Node node = t.nodes.get(n);
            if (node == null || node.leaf != null) {
                continue;
            }
            boolean good = false;
            for (int side = 0; side < 2; side++) {
                List<Integer> r = resolution(t, side == 0 ? left(n) : right(n));
                r.removeIf(x -> x % 2 == 0 && node.unmerged.contains(x / 2));
                if (r.size() == 1) {
                    Node one = t.nodes.get(r.get(0));
                    good |= one != null && one.parentHash != null && one.parentHash == wanted(t, n, side == 0);
                }
            }
            if (!good) {
                return false;
            }
            for (int l : node.unmerged) {
                if (t.leaf(l) == null || !isBelow(l, n)) {
                    return false;
                }
                for (int between : way(t, l)) {
                    Node b = t.nodes.get(between);
                    if (height(between) < height(n) && b != null && !b.unmerged.contains(l)) {
                        return false;
                    }
                }
            }
        }
        Set<Object> members = new HashSet<>();
        Set<Object> keys = new HashSet<>();
        for (int i = 0; i < 1 << t.d; i++) {
            Leaf l = t.leaf(i);
            if (l != null && (!members.add(l.member) || !keys.add(l.key))) {
                return false;
            }
        }
        return true;
    }

    // ---- signatures

    boolean isSigned(Leaf by, T signature, List<Object> signs) {
        return by.member < 24 && by.signatureKey == signatureKey[by.member]
                && signature == signed(signatureSecret[by.member], signs);
    }

    boolean isLeafSigned(Leaf l, int number) {
        return isSigned(l, l.signature, leafSigned(l, number));
    }

    boolean isPackSigned(Pack p) {
        return isLeafSigned(p.leaf, 0) && isSigned(p.leaf, p.signature, p.signs.subList(0, 8));
    }

    boolean isPackRight(Pack p) {
        return isPackSigned(p) && p.init != p.leaf.key;
    }

    static List<Object> plus(List<Object> a, List<Object> b) {
        List<Object> s = new ArrayList<>(a);
        s.addAll(b);
        return s;
    }

    T membership(State st) {
        return derived(st.epochSecret, 3);
    }

    // ---- reading

    final class Reading {
        final List<Object> s;
        int at;

        Reading(List<Object> s) {
            this.s = s;
        }

        Object next() {
            if (at >= s.size()) {
                throw new Wrong(1);
            }
            return s.get(at++);
        }

        int u8() {
            Object o = next();
            if (!(o instanceof Integer)) {
                throw new Wrong(1);
            }
            return (Integer) o;
        }

        int u16() {
            return u8() * 256 + u8();
        }

        int u32() {
            return (u16() << 16) + u16();
        }

        T term(int sort) {
            Object o = next();
            if (!(o instanceof T t) || t.sort != sort || t == zero || !knows(t)) {
                throw new Wrong(1);
            }
            return (T) o;
        }

        T hashOrZero() {
            if (at < s.size() && s.get(at).equals(0)) {
                at++;
                return null;
            }
            return term(HASH);
        }

        void is(boolean b) {
            if (!b) {
                throw new Wrong(1);
            }
        }

        Reading row() {
            int n = u16();
            is(at + n <= s.size());
            Reading r = new Reading(s.subList(at, at + n));
            at += n;
            return r;
        }

        boolean more() {
            return at < s.size();
        }

        void done() {
            is(!more());
        }

        Leaf leaf(int... sources) {
            int member = u16();
            T key = term(PUBLIC);
            T sk = term(PUBLIC);
            int source = u8();
            is(Arrays.stream(sources).anyMatch(x -> x == source));
            T ph = source == 3 ? hashOrZero() : null;
            return new Leaf(member, key, sk, source, ph, term(SIGNED));
        }

        Pack pack() {
            int start = at;
            is(u8() == 1);
            T init = term(PUBLIC);
            Leaf leaf = leaf(1);
            T signature = term(SIGNED);
            return new Pack(init, leaf, signature, List.copyOf(s.subList(start, at)));
        }

        Content content() {
            int start = at;
            int kind = u8();
            Pack pack = null;
            Leaf leaf = null;
            int remove = -1;
            if (kind == 1) {
                Reading r = row();
                pack = r.pack();
                r.done();
            } else if (kind == 2) {
                leaf = leaf(2);
            } else {
                is(kind == 3);
                remove = u16();
            }
            return new Content(kind, pack, leaf, remove, List.copyOf(s.subList(start, at)));
        }

        Proposal proposal() {
            is(u8() == 2);
            Proposal p = new Proposal(u32(), u16(), content(), term(SIGNED), term(MAC));
            done();
            return p;
        }

        Commit commit() {
            is(u8() == 3);
            int epoch = u32();
            int leaf = u16();
            List<Entry> entries = new ArrayList<>();
            Reading r = row();
            while (r.more()) {
                int by = r.u8();
                is(by == 1 || by == 2);
                entries.add(by == 1 ? new Entry(r.term(HASH), null) : new Entry(null, r.content()));
            }
            int has = u8();
            is(has == 0 || has == 1);
            Leaf pathLeaf = null;
            List<PathNode> nodes = null;
            if (has == 1) {
                pathLeaf = leaf(3);
                nodes = new ArrayList<>();
                Reading p = row();
                while (p.more()) {
                    T key = p.term(PUBLIC);
                    Reading in = p.row();
                    List<T> sealed = new ArrayList<>();
                    while (in.more()) {
                        sealed.add(in.term(SEALED));
                    }
                    nodes.add(new PathNode(key, sealed));
                }
            }
            Commit c = new Commit(epoch, leaf, entries, pathLeaf, nodes, term(SIGNED), term(MAC), term(MAC));
            done();
            return c;
        }

        Welcome welcome() {
            is(u8() == 4);
            Reading r = row();
            List<Joiner> joiners = new ArrayList<>();
            while (r.more()) {
                joiners.add(new Joiner(r.term(HASH), r.term(SEALED)));
            }
            int infoStart = at;
            int epoch = u32();
            T th = term(HASH);
            T ch = hashOrZero();
            int leaf = u16();
            Tree tree = row().tree();
            Welcome w = new Welcome(joiners, infoStart, epoch, th, ch, leaf, tree, term(MAC), term(SIGNED));
            done();
            return w;
        }

        Tree tree() {
            Tree t = new Tree();
            int n = 0;
            while (more()) {
                int mark = u8();
                if (mark == 1) {
                    is(n % 2 == 0 && n < 31);
                    Node node = new Node();
                    node.leaf = leaf(1, 2, 3);
                    node.key = node.leaf.key;
                    node.parentHash = node.leaf.parentHash;
                    t.nodes.put(n, node);
                } else if (mark == 2) {
                    is(n % 2 == 1);
                    Node node = new Node();
                    node.key = term(PUBLIC);
                    node.parentHash = hashOrZero();
                    Reading u = row();
                    int last = -1;
                    while (u.more()) {
                        int l = u.u16();
                        is(l <= 15 && l > last);
                        last = l;
                        node.unmerged.add(l);
                    }
                    t.nodes.put(n, node);
                } else {
                    is(mark == 0);
                }
                n++;
            }
            is(n == 1 || n == 3 || n == 7 || n == 15 || n == 31);
            t.d = Integer.numberOfTrailingZeros(n + 1) - 1;
            return t;
        }
    }

    // ---- proposals

    boolean areRight(Tree tree, int committer, List<From> list) {
        Set<Integer> changed = new HashSet<>();
        Set<Integer> removed = new HashSet<>();
        Set<Integer> joining = new HashSet<>();
        for (From f : list) {
            Content c = f.content;
            if (c.kind == 3) {
                if (c.remove == committer || tree.leaf(c.remove) == null || !changed.add(c.remove)) {
                    return false;
                }
                removed.add(c.remove);
            } else if (c.kind == 2) {
                if (f.leaf == committer || !changed.add(f.leaf) || tree.leaf(f.leaf) == null
                        || c.leaf.member != tree.leaf(f.leaf).member || !isLeafSigned(c.leaf, f.leaf)) {
                    return false;
                }
            } else if (!isPackRight(c.pack) || !joining.add(c.pack.leaf.member)) {
                return false;
            }
        }
        int stay = 0;
        for (int i = 0; i < 1 << tree.d; i++) {
            if (tree.leaf(i) != null && !removed.contains(i)) {
                stay++;
                if (joining.contains(tree.leaf(i).member)) {
                    return false;
                }
            }
        }
        if (stay + joining.size() > 16) {
            return false;
        }
        Tree behind = tree.copy();
        apply(behind, list);
        List<T> keys = new ArrayList<>();
        for (int i = 0; i < 1 << behind.d; i++) {
            if (behind.leaf(i) != null) {
                keys.add(behind.leaf(i).key);
            }
        }
        return new HashSet<>(keys).size() == keys.size();
    }

    /** Does the proposals: for each the leaf where it was ADDed, else -1. */
    int[] apply(Tree t, List<From> list) {
        int[] places = new int[list.size()];
        Arrays.fill(places, -1);
        for (From f : list) {
            if (f.content.kind == 2) {
                t.put(f.leaf, f.content.leaf);
                way(t, f.leaf).forEach(t.nodes::remove);
            }
        }
        for (From f : list) {
            if (f.content.kind == 3) {
                t.nodes.remove(2 * f.content.remove);
                way(t, f.content.remove).forEach(t.nodes::remove);
            }
        }
        while (t.d > 0 && isRightBlank(t)) {
            t.d--;
            t.nodes.keySet().removeIf(n -> n >= t.size());
        }
        for (int k = 0; k < places.length; k++) {
            if (list.get(k).content.kind == 1) {
                int i = 0;
                while (i < 1 << t.d && t.leaf(i) != null) {
                    i++;
                }
                if (i == 1 << t.d) {
                    t.d++;
                }
                t.put(i, list.get(k).content.pack.leaf);
                for (int n : way(t, i)) {
                    if (t.nodes.containsKey(n)) {
                        t.nodes.get(n).unmerged.add(i);
                    }
                }
                places[k] = i;
            }
        }
        return places;
    }

    private static boolean isRightBlank(Tree t) {
        for (int i = 1 << (t.d - 1); i < 1 << t.d; i++) {
            if (t.leaf(i) != null) {
                return false;
            }
        }
        return true;
    }

    /** A node that counts, its side with who commits, and for which nodes its secret is sealed. */
    record Counts(int node, boolean onLeft, List<Integer> sealedFor) { }

    List<Counts> counting(Tree t, int leaf, int[] places) {
        List<Counts> list = new ArrayList<>();
        for (int n : way(t, leaf)) {
            boolean onLeft = isBelow(leaf, left(n));
            List<Integer> r = resolution(t, onLeft ? right(n) : left(n));
            if (!r.isEmpty()) {
                for (int p : places) {
                    r.remove((Object) (2 * p));
                }
                list.add(new Counts(n, onLeft, r));
            }
        }
        return list;
    }

    /** Puts keys at the nodes that count: the parent hash of the LEAF. */
    T putPath(Tree t, int leaf, List<Counts> list, List<T> keys) {
        way(t, leaf).forEach(t.nodes::remove);
        for (int k = 0; k < list.size(); k++) {
            Node n = new Node();
            n.key = keys.get(k);
            t.nodes.put(list.get(k).node, n);
        }
        T hash = null;
        for (int k = list.size() - 1; k >= 0; k--) {
            t.nodes.get(list.get(k).node).parentHash = hash;
            hash = wanted(t, list.get(k).node, list.get(k).onLeft);
        }
        return hash;
    }

    // ---- epochs

    /** Gives a state whose tree, epoch and CONFIRMED hash stand its keys: its confirmation. */
    T begin(State st, T joiner) {
        st.treeHash = topHash(st.tree);
        st.epochSecret = derived(joiner, 0, context(st));
        T confirmation = mac(derived(st.epochSecret, 2), List.of(orZero(st.confirmed)));
        st.interim = hash(List.of(orZero(st.confirmed), confirmation));
        return confirmation;
    }

    T joiner(State before, T commitSecret) {
        return mixed(derived(before.epochSecret, 1), commitSecret);
    }

    State follow(State before, Tree tree) {
        State st = new State();
        st.epoch = before.epoch + 1;
        st.leaf = before.leaf;
        st.tree = tree;
        return st;
    }

    void carry(State before, State next) {
        before.secrets.forEach((n, s) -> {
            Node a = before.tree.nodes.get(n);
            Node b = next.tree.nodes.get(n);
            if (a != null && b != null && a.key == b.key) {
                next.secrets.put(n, s);
            }
        });
    }

    // ---- the face

    void feed(int a, int b, int c, int d, int e) {
        int[] in = {a, b, c, d, e};
        for (int k = 0; k < 20; k++) {
            ready[k] = in[k / 4] >>> (24 - 8 * (k % 4)) & 255;
        }
    }

    int end(int n) {
        if (n < 0 || n > 20 || tape.size() + n > 1200) {
            return -1;
        }
        for (int k = 0; k < n; k++) {
            tape.add(ready[k]);
        }
        ready = new int[20];
        return tape.size();
    }

    int place(int number) {
        T t = byNumber(number);
        if (t == null) {
            throw new IndexOutOfBoundsException();
        }
        if (tape.size() == 1200) {
            return -1;
        }
        tape.add(t);
        return tape.size();
    }

    boolean isMessage(int m) {
        return m >= 0 && m < messages.size();
    }

    int copy(int message, int k, int n) {
        if (!isMessage(message) || k < 0 || n < 0 || k > messages.get(message).size()) {
            return -1;
        }
        List<Object> s = messages.get(message);
        int length = Math.min(n, s.size() - k);
        if (tape.size() + length > 1200) {
            return -1;
        }
        tape.addAll(s.subList(k, k + length));
        return tape.size();
    }

    Member at(int m) {
        if (m < 0 || m > 23) {
            throw new IndexOutOfBoundsException();
        }
        return members[m];
    }

    void must(boolean b) {
        if (!b) {
            throw new IllegalStateException();
        }
    }

    int send(List<Object> s) {
        learn(s);
        messages.add(List.copyOf(s));
        return messages.size() - 1;
    }

    void create(int m) {
        must(at(m).state == null);
        T secret = name();
        State st = new State();
        st.tree = new Tree();
        st.tree.put(0, makeLeaf(m, secret, 1, null, 0));
        st.secrets.put(0, secret);
        begin(st, name());
        members[m].state = st;
    }

    int offer(int m) {
        Member me = at(m);
        must(messages.size() < 300 && me.packs.size() < 8);
        T init = name();
        T secret = name();
        List<Object> s = packSigns(pub(init), makeLeaf(m, secret, 1, null, 0), signatureSecret[m]);
        int number = send(s);
        me.packs.add(new Own(new Reading(s).pack(), init, secret));
        return number;
    }

    Pack rightPack(int message) {
        try {
            Reading r = new Reading(messages.get(message));
            Pack p = r.pack();
            r.done();
            return isPackRight(p) ? p : null;
        } catch (Wrong w) {
            return null;
        }
    }

    List<Object> proposalSigns(State st, int leaf, List<Object> content, T by) {
        List<Object> s = new ArrayList<>();
        s.add(2);
        u32(s, st.epoch);
        u16(s, leaf);
        s.addAll(content);
        s.add(signed(by, plus(s, context(st))));
        s.add(mac(membership(st), s));
        return s;
    }

    int propose(int m, int kind, int of) {
        Member me = at(m);
        if (kind < 1 || kind > 3 || kind == 1 && !isMessage(of) || kind == 3 && (of < 0 || of > 15)) {
            throw new IndexOutOfBoundsException();
        }
        if (kind == 1 && rightPack(of) == null) {
            throw new IllegalArgumentException();
        }
        must(messages.size() < 300 && me.state != null && me.proposals.size() < 20);
        List<Object> content = new ArrayList<>();
        content.add(kind);
        if (kind == 1) {
            row(content, messages.get(of));
        } else if (kind == 2) {
            T secret = name();
            me.updates.add(secret);
            content.addAll(leafSigns(makeLeaf(m, secret, 2, null, me.state.leaf)));
        } else {
            u16(content, of);
        }
        List<Object> s = proposalSigns(me.state, me.state.leaf, content, signatureSecret[m]);
        int number = send(s);
        me.proposals.putIfAbsent(hash(s), new Reading(s).proposal());
        return number;
    }

    int commit(int m, boolean path) {
        Member me = at(m);
        must(messages.size() < 300 && me.state != null);
        State now = me.state;
        List<From> list = new ArrayList<>();
        List<Object> entries = new ArrayList<>();
        boolean mustPath = true;
        boolean adds = false;
        for (Map.Entry<T, Proposal> e : me.proposals.entrySet()) {
            From f = new From(e.getValue().leaf, e.getValue().content);
            list.add(f);
            if (!areRight(now.tree, now.leaf, list)) {
                list.remove(list.size() - 1);
                continue;
            }
            adds |= f.content.kind == 1;
            if (f.leaf == now.leaf) {
                entries.add(2);
                entries.addAll(f.content.signs);
            } else {
                entries.add(1);
                entries.add(e.getKey());
            }
        }
        mustPath = list.isEmpty() || list.stream().anyMatch(f -> f.content.kind != 1);
        must(!adds || messages.size() < 299);
        boolean hasPath = path || mustPath;
        State next = follow(now, now.tree.copy());
        int[] places = apply(next.tree, list);
        List<Object> s = new ArrayList<>();
        s.add(3);
        u32(s, now.epoch);
        u16(s, now.leaf);
        row(s, entries);
        s.add(hasPath ? 1 : 0);
        T commitSecret = zero;
        List<Counts> counts = counting(next.tree, now.leaf, places);
        List<T> pathSecrets = new ArrayList<>();
        if (hasPath) {
            T leafSecret = name();
            List<T> keys = new ArrayList<>();
            Tree behind = next.tree.copy();
            for (int k = 0; k < counts.size(); k++) {
                pathSecrets.add(k == 0 ? name() : derived(pathSecrets.get(k - 1), 4));
                keys.add(pub(derived(pathSecrets.get(k), 5)));
            }
            T ph = putPath(next.tree, now.leaf, counts, keys);
            Leaf leaf = makeLeaf(m, leafSecret, 3, ph, now.leaf);
            next.tree.put(now.leaf, leaf);
            s.addAll(leafSigns(leaf));
            List<Object> nodes = new ArrayList<>();
            for (int k = 0; k < counts.size(); k++) {
                nodes.add(keys.get(k));
                List<Object> sealed = new ArrayList<>();
                for (int n : counts.get(k).sealedFor) {
                    sealed.add(sealed(behind.nodes.get(n).key, pathSecrets.get(k)));
                }
                row(nodes, sealed);
            }
            row(s, nodes);
            carry(now, next);
            next.secrets.put(2 * now.leaf, leafSecret);
            for (int k = 0; k < counts.size(); k++) {
                next.secrets.put(counts.get(k).node, derived(pathSecrets.get(k), 5));
            }
            commitSecret = derived(counts.isEmpty() ? leafSecret : pathSecrets.get(counts.size() - 1), 4);
        } else {
            carry(now, next);
        }
        s.add(signed(signatureSecret[m], plus(s, context(now))));
        next.confirmed = hash(plus(List.of(now.interim), s));
        T joiner = joiner(now, commitSecret);
        T confirmation = begin(next, joiner);
        s.add(confirmation);
        s.add(mac(membership(now), s));
        int number = send(s);
        me.pending = next;
        me.pendingSigns = List.copyOf(s);
        if (adds) {
            List<Object> joiners = new ArrayList<>();
            for (int k = 0; k < list.size(); k++) {
                if (list.get(k).content.kind == 1) {
                    Pack p = list.get(k).content.pack;
                    joiners.add(hash(p.signs));
                    T secret = null;
                    for (int c = counts.size() - 1; hasPath && c >= 0; c--) {
                        if (isBelow(places[k], counts.get(c).node)) {
                            secret = pathSecrets.get(c);
                        }
                    }
                    joiners.add(secret == null ? sealed(p.init, joiner) : sealed(p.init, joiner, secret));
                }
            }
            send(welcomeSigns(joiners, next, now.leaf, confirmation, signatureSecret[m]));
        }
        return number;
    }

    List<Object> welcomeSigns(List<Object> joiners, State st, int leaf, T confirmation, T by) {
        List<Object> info = new ArrayList<>();
        u32(info, st.epoch);
        info.add(st.treeHash);
        info.add(orZero(st.confirmed));
        u16(info, leaf);
        row(info, treeSigns(st.tree));
        info.add(confirmation);
        info.add(signed(by, info));
        List<Object> w = new ArrayList<>();
        w.add(4);
        row(w, joiners);
        w.addAll(info);
        return w;
    }

    int deliver(int message, int m) {
        Member me = at(m);
        if (!isMessage(message)) {
            throw new IndexOutOfBoundsException();
        }
        return take(messages.get(message), m, false);
    }

    /** Delivers signs; a dry run changes nothing (but for the confirmation that would be right). */
    int take(List<Object> s, int m, boolean dry) {
        wantedConfirmation = null;
        try {
            Reading r = new Reading(s);
            int type = s.isEmpty() || !(s.get(0) instanceof Integer i) ? 0 : i;
            if (type == 1) {
                Pack p = r.pack();
                r.done();
                return isPackRight(p) ? 0 : 4;
            } else if (type == 2) {
                takeProposal(members[m], r.proposal(), s, dry);
            } else if (type == 3) {
                takeCommit(members[m], r.commit(), s, dry);
            } else if (type == 4) {
                takeWelcome(m, r.welcome(), s, dry);
            } else {
                return 1;
            }
            return 0;
        } catch (Wrong w) {
            return w.code;
        }
    }

    void when(boolean b, int code) {
        if (b) {
            throw new Wrong(code);
        }
    }

    void takeProposal(Member me, Proposal p, List<Object> s, boolean dry) {
        when(me.state == null || me.state.epoch != p.epoch, 2);
        State st = me.state;
        when(p.leaf == st.leaf || st.tree.leaf(p.leaf) == null, 3);
        int n = s.size();
        when(!isSigned(st.tree.leaf(p.leaf), p.signature, plus(s.subList(0, n - 2), context(st))), 4);
        when(p.content.kind == 1 && !isPackSigned(p.content.pack), 4);
        when(p.content.kind == 2 && !isLeafSigned(p.content.leaf, p.leaf), 4);
        when(p.tag != mac(membership(st), s.subList(0, n - 1)), 5);
        if (!dry) {
            me.proposals.putIfAbsent(hash(s), p);
        }
    }

    void takeCommit(Member me, Commit c, List<Object> s, boolean dry) {
        when(me.state == null || me.state.epoch != c.epoch, 2);
        State now = me.state;
        if (c.leaf == now.leaf) {
            when(!s.equals(me.pendingSigns), 3);
            if (!dry) {
                me.state = me.pending;
                me.forget();
            }
            return;
        }
        int n = s.size();
        when(now.tree.leaf(c.leaf) == null, 3);
        when(!isSigned(now.tree.leaf(c.leaf), c.signature, plus(s.subList(0, n - 3), context(now))), 4);
        when(c.tag != mac(membership(now), s.subList(0, n - 1)), 5);
        List<From> list = new ArrayList<>();
        for (Entry e : c.entries) {
            if (e.hash != null) {
                Proposal p = me.proposals.get(e.hash);
                when(p == null, 6);
                list.add(new From(p.leaf, p.content));
            } else {
                list.add(new From(c.leaf, e.content));
            }
        }
        when(!areRight(now.tree, c.leaf, list), 7);
        State next = follow(now, now.tree.copy());
        int[] places = apply(next.tree, list);
        boolean mustPath = list.isEmpty() || list.stream().anyMatch(f -> f.content.kind != 1);
        when(mustPath && c.nodes == null, 8);
        List<Counts> counts = counting(next.tree, c.leaf, places);
        Tree behind = next.tree.copy();
        if (c.nodes != null) {
            when(c.nodes.size() != counts.size(), 8);
            for (int k = 0; k < counts.size(); k++) {
                when(counts.get(k).sealedFor.size() != c.nodes.get(k).sealed.size(), 8);
            }
            checkPathLeaf(c, next, counts, behind);
        }
        if (list.stream().anyMatch(f -> f.content.kind == 3 && f.content.remove == now.leaf)) {
            if (!dry) {
                me.state = null;
                me.forget();
            }
            return;
        }
        carry(now, next);
        for (From f : list) {
            if (f.content.kind == 2 && f.leaf == now.leaf) {
                for (T u : me.updates) {
                    if (pub(u) == f.content.leaf.key) {
                        next.secrets.put(2 * now.leaf, u);
                    }
                }
            }
        }
        T commitSecret = c.nodes == null ? zero : open(c, next, counts, behind);
        next.confirmed = hash(plus(List.of(now.interim), s.subList(0, n - 2)));
        wantedConfirmation = begin(next, joiner(now, commitSecret));
        when(wantedConfirmation != c.confirmation, 12);
        if (!dry) {
            me.state = next;
            me.forget();
        }
    }

    private void checkPathLeaf(Commit c, State next, List<Counts> counts, Tree behind) {
        when(c.pathLeaf.member != behind.leaf(c.leaf).member, 9);
        for (Node node : behind.nodes.values()) {
            when(node.key == c.pathLeaf.key, 9);
        }
        when(!isLeafSigned(c.pathLeaf, c.leaf), 9);
        List<T> keys = c.nodes.stream().map(x -> x.key).toList();
        when(putPath(next.tree, c.leaf, counts, keys) != c.pathLeaf.parentHash, 9);
        next.tree.put(c.leaf, c.pathLeaf);
    }

    private T open(Commit c, State next, List<Counts> counts, Tree behind) {
        int k = 0;
        while (!isBelow(next.leaf, counts.get(k).node)) {
            k++;
        }
        T secret = null;
        List<Integer> sealedFor = counts.get(k).sealedFor;
        for (int i = 0; i < sealedFor.size() && secret == null; i++) {
            if (next.secrets.containsKey(sealedFor.get(i))) {
                T sealed = c.nodes.get(k).sealed.get(i);
                when(sealed.part(0) != behind.nodes.get(sealedFor.get(i)).key, 10);
                when(sealed.part(2) != null, 10);
                secret = sealed.part(1);
            }
        }
        when(secret == null, 10);
        for (; k < counts.size(); k++) {
            T nodeSecret = derived(secret, 5);
            when(pub(nodeSecret) != c.nodes.get(k).key, 11);
            next.secrets.put(counts.get(k).node, nodeSecret);
            secret = derived(secret, 4);
        }
        return secret;
    }

    void takeWelcome(int m, Welcome w, List<Object> s, boolean dry) {
        Member me = members[m];
        when(me.state != null, 2);
        Own own = null;
        Joiner mine = null;
        for (Joiner j : w.joiners) {
            for (Own o : me.packs) {
                if (mine == null && hash(o.pack.signs) == j.hash) {
                    mine = j;
                    own = o;
                }
            }
        }
        when(mine == null, 13);
        when(mine.sealed.part(0) != own.pack.init, 13);
        when(topHash(w.tree) != w.treeHash, 14);
        when(!isSound(w.tree), 15);
        int place = -1;
        for (int i = 0; i < 1 << w.tree.d; i++) {
            Leaf l = w.tree.leaf(i);
            when(l != null && !isLeafSigned(l, i), 15);
            if (l != null && l.member == m) {
                place = i;
            }
        }
        when(place < 0 || !w.tree.leaf(place).equals(own.pack.leaf), 15);
        when(w.tree.leaf(w.leaf) == null, 4);
        when(!isSigned(w.tree.leaf(w.leaf), w.signature, s.subList(w.infoStart, s.size() - 1)), 4);
        State st = new State();
        st.epoch = w.epoch;
        st.leaf = place;
        st.tree = w.tree;
        st.confirmed = w.confirmed;
        wantedConfirmation = begin(st, mine.sealed.part(1));
        when(wantedConfirmation != w.confirmation, 12);
        st.secrets.put(2 * place, own.leafSecret);
        T secret = mine.sealed.part(2);
        if (secret != null) {
            boolean first = true;
            for (int n : way(w.tree, place)) {
                if (isBelow(w.leaf, n)) {
                    Node node = w.tree.nodes.get(n);
                    when(first && node == null, 11);
                    first = false;
                    if (node != null) {
                        when(pub(derived(secret, 5)) != node.key, 11);
                        st.secrets.put(n, derived(secret, 5));
                        secret = derived(secret, 4);
                    }
                }
            }
            when(first, 11);
        }
        if (!dry) {
            me.state = st;
            me.packs.remove(own);
            me.forget();
        }
    }

    int post() {
        must(messages.size() < 300);
        messages.add(tape);
        tape = new ArrayList<>();
        return messages.size() - 1;
    }

    int make(int sort, int a, int b) {
        T x = byNumber(a);
        T y = byNumber(b);
        boolean good = sort >= 0 && sort <= 7;
        good &= sort == 0 || sort == 1 || knows(x);
        good &= sort != 4 && sort != 6 || knows(y);
        good &= sort != 3 || b >= 0 && b <= 9;
        if (!good) {
            throw new IndexOutOfBoundsException();
        }
        boolean tapeIn = sort == 1 || sort == 2 || sort == 3 || sort == 7;
        if (sort == 6 && x.sort != PUBLIC || tapeIn && tape.size() > 300) {
            throw new IllegalArgumentException();
        }
        T t = switch (sort) {
            case 0 -> name();
            case 1 -> hash(tape);
            case 2 -> mac(x, tape);
            case 3 -> derived(x, b, tape);
            case 4 -> mixed(x, y);
            case 5 -> pub(x);
            case 6 -> sealed(x, y);
            default -> signed(x, tape);
        };
        if (tapeIn) {
            tape = new ArrayList<>();
        }
        learn(List.of(t));
        return tell(t);
    }

    int compromise(int m) {
        Member me = at(m);
        List<Object> told = new ArrayList<>();
        told.add(signatureSecret[m]);
        for (Own o : me.packs) {
            told.add(o.initSecret);
            told.add(o.leafSecret);
        }
        told.addAll(me.updates);
        for (State st : Arrays.asList(me.state, me.pending)) {
            if (st != null) {
                told.add(st.epochSecret);
                told.addAll(st.secrets.values());
            }
        }
        learn(told);
        return knownCount();
    }

    boolean isKnown(int n) {
        return knows(byNumber(n));
    }

    int term(int n, int what) {
        T t = byNumber(n);
        if (t == null || what < 0 || what > 4) {
            return -1;
        }
        if (what == 0) {
            return t.sort;
        }
        if (what == 4) {
            return t.signs.size();
        }
        return what == 2 && t.sort == DERIVED ? t.label : tell(t.part(what - 1));
    }

    int sign(Object o) {
        return o instanceof T t ? 256 + tell(t) : (Integer) o;
    }

    int ofTerm(int n, int k) {
        T t = byNumber(n);
        return t == null || k < 0 || k >= t.signs.size() ? -1 : sign(t.signs.get(k));
    }

    int message(int m) {
        return isMessage(m) ? messages.get(m).size() : -1;
    }

    int sign(int m, int k) {
        return !isMessage(m) || k < 0 || k >= messages.get(m).size() ? -1 : sign(messages.get(m).get(k));
    }

    int member(int m, int what) {
        if (m < 0 || m > 23 || what < 0 || what > 12) {
            return -1;
        }
        Member me = members[m];
        State st = me.state;
        if (st == null) {
            return what == 10 ? me.packs.size() : what == 0 || what > 7 ? 0 : -1;
        }
        return switch (what) {
            case 0 -> 1;
            case 1 -> st.epoch;
            case 2 -> st.leaf;
            case 3 -> st.tree.d;
            case 4 -> tell(st.treeHash);
            case 5 -> tell(st.confirmed);
            case 6 -> tell(st.interim);
            case 7 -> tell(st.epochSecret);
            case 8 -> me.proposals.size();
            case 9 -> me.updates.size();
            case 10 -> me.packs.size();
            case 11 -> me.pending == null ? 0 : 1;
            default -> st.secrets.size();
        };
    }

    int node(int m, int n, int what) {
        if (m < 0 || m > 23 || members[m].state == null || what < 0 || what > 5) {
            return -1;
        }
        State st = members[m].state;
        if (n < 0 || n >= st.tree.size()) {
            return -1;
        }
        Node node = st.tree.nodes.get(n);
        return switch (what) {
            case 0 -> node == null ? 0 : tell(node.key);
            case 1 -> node == null ? 0 : tell(node.parentHash);
            case 2 -> node == null ? 0 : node.unmerged.size();
            case 3 -> node == null || node.leaf == null ? -1 : node.leaf.member;
            case 4 -> resolution(st.tree, n).size();
            default -> st.secrets.containsKey(n) ? 1 : 0;
        };
    }

    int count(int what) {
        return switch (what) {
            case 0 -> numbered.size();
            case 1 -> messages.size();
            case 2 -> knownCount();
            case 3 -> tape.size();
            default -> -1;
        };
    }
}
