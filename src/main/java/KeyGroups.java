import java.util.Arrays;

/**
 * Groups whose keys lie in a tree, with their messages. Members make and take messages, whoever
 * delivers may lose, repeat, change and make them, and an intruder learns what can be had from
 * all that was sent, made and told.
 *
 * <p>Inside, a term is a small number from 1 on (0: none), the same one for the same term; a sign
 * is a byte, or TERM and a term. The numbers that callers see are given later, when first told.
 */
public final class KeyGroups {
    public static final int NONE = -1;

    private static final int MEMBERS = 24;
    private static final int LEAVES = 16;
    private static final int NODES = 31;
    private static final int MAX_DEPTH = 4;
    private static final int MAX_MESSAGES = 300;
    private static final int MAX_TAPE = 1200;
    private static final int MAX_TAPE_IN_TERM = 300;
    private static final int MAX_PACKAGES = 8;
    private static final int MAX_PROPOSALS = 20;
    private static final int READY_BYTES = 20;

    // The longest row is a posted message with a context behind it; members' own stay far below.
    private static final int ROW_ROOM = 1400;
    // Eight nodes of height 1 with sixteen unmerged leaves each, in a tree that nobody checked yet.
    private static final int RESOLUTION_ROOM = 8 * 17 + 8;

    private static final int TERM = 256;

    private static final int NAME = 0;
    private static final int HASH = 1;
    private static final int MAC = 2;
    private static final int DERIVED = 3;
    private static final int MIXED = 4;
    private static final int PUBLIC = 5;
    private static final int SEALED = 6;
    private static final int SIGNED = 7;

    private static final int ZERO = 1;

    private static final int LABEL_EPOCH = 0;
    private static final int LABEL_INIT = 1;
    private static final int LABEL_CONFIRMATION = 2;
    private static final int LABEL_MEMBERSHIP = 3;
    private static final int LABEL_PATH = 4;
    private static final int LABEL_NODE = 5;
    private static final int MAX_LABEL = 9;

    private static final int PACKAGE = 1;
    private static final int PROPOSAL = 2;
    private static final int COMMIT = 3;
    private static final int WELCOME = 4;

    private static final int ADD = 1;
    private static final int UPDATE = 2;
    private static final int REMOVE = 3;

    private static final int BY_HASH = 1;
    private static final int BY_CONTENT = 2;

    private static final int ANY_SOURCE = 0;
    private static final int SOURCE_PACKAGE = 1;
    private static final int SOURCE_UPDATE = 2;
    private static final int SOURCE_COMMIT = 3;

    private static final int BLANK_NODE = 0;
    private static final int LEAF_NODE = 1;
    private static final int PARENT_NODE = 2;

    private static final int PACKAGE_SIZE = 9;
    private static final int LEAF_SIZE = 6;
    private static final int CONTENT_IN_PROPOSAL = 7;
    private static final int PACKAGE_IN_ADD = 3;
    private static final int LEAF_IN_PACKAGE = 2;

    private static final int TAKEN = 0;
    private static final int UNREADABLE = 1;
    private static final int OTHER_EPOCH = 2;
    private static final int NO_SENDER = 3;
    private static final int BAD_SIGNATURE = 4;
    private static final int BAD_TAG = 5;
    private static final int UNKNOWN_PROPOSAL = 6;
    private static final int BAD_PROPOSALS = 7;
    private static final int BAD_PATH = 8;
    private static final int BAD_PATH_LEAF = 9;
    private static final int CANNOT_OPEN = 10;
    private static final int BAD_KEY = 11;
    private static final int BAD_CONFIRMATION = 12;
    private static final int NOT_FOR_ME = 13;
    private static final int BAD_TREE_HASH = 14;
    private static final int BAD_TREE = 15;

    private final Terms terms;
    private final Crypt crypt;
    private final Member[] members;
    private final Row[] mail;
    private int mailSize;
    private final Row tape;
    private final int[] ready;
    private final Reader letter;
    private final Changes changes;
    private final Path path;
    private final Taker taker;
    private final Row out;
    private final Leaf ownLeaf;

    public KeyGroups() {
        Terms newTerms = new Terms();
        Crypt newCrypt = new Crypt(newTerms);
        Reader newReader = new Reader(newTerms);
        Changes newChanges = new Changes(newCrypt);
        Path newPath = new Path();
        terms = newTerms;
        crypt = newCrypt;
        letter = newReader;
        changes = newChanges;
        path = newPath;
        taker = new Taker(newCrypt, newReader, newChanges, newPath);
        members = new Member[MEMBERS];
        for (int m = 0; m < MEMBERS; m++) {
            members[m] = new Member(m, newCrypt.secrets[m], newCrypt.keys[m]);
        }
        mail = new Row[MAX_MESSAGES];
        tape = new Row(MAX_TAPE);
        ready = new int[READY_BYTES];
        out = new Row(ROW_ROOM);
        ownLeaf = new Leaf();
    }

    public void feed(int a, int b, int c, int d, int e) {
        readyNumber(0, a);
        readyNumber(4, b);
        readyNumber(8, c);
        readyNumber(12, d);
        readyNumber(16, e);
    }

    public int end(int n) {
        if (n < 0 || n > READY_BYTES || tape.size + n > MAX_TAPE) {
            return NONE;
        }
        for (int k = 0; k < n; k++) {
            tape.put(ready[k]);
        }
        Arrays.fill(ready, 0);
        return tape.size;
    }

    public int place(int term) throws IndexOutOfBoundsException {
        int placed = terms.numbered(term);
        if (placed == 0) {
            throw new IndexOutOfBoundsException("no such term");
        }
        if (tape.size >= MAX_TAPE) {
            return NONE;
        }
        tape.put(TERM + placed);
        return tape.size;
    }

    public int copy(int message, int k, int n) {
        if (!isMessage(message) || k < 0 || n < 0 || k > mail[message].size) {
            return NONE;
        }
        int length = Math.min(n, mail[message].size - k);
        if (tape.size + length > MAX_TAPE) {
            return NONE;
        }
        tape.putAll(mail[message], k, k + length);
        return tape.size;
    }

    public void create(int member) throws IndexOutOfBoundsException, IllegalStateException {
        Member founder = memberAt(member);
        if (founder.isIn) {
            throw new IllegalStateException("the member is in a group");
        }
        int secret = terms.name();
        writeLeaf(founder, secret, SOURCE_PACKAGE);
        Group group = founder.pending;
        group.clear();
        group.tree.putLeaf(0, ownLeaf);
        group.secret[0] = secret;
        crypt.startEpoch(group, terms.name());
        founder.pending = founder.enter(group);
    }

    public int offer(int member) throws IndexOutOfBoundsException, IllegalStateException {
        Member maker = memberAt(member);
        if (mailSize >= MAX_MESSAGES || maker.packages >= MAX_PACKAGES) {
            throw new IllegalStateException("too many messages or packages");
        }
        int initSecret = terms.name();
        int leafSecret = terms.name();
        writeLeaf(maker, leafSecret, SOURCE_PACKAGE);
        out.clear();
        out.put(PACKAGE);
        out.put(TERM + crypt.publicOf(initSecret));
        ownLeaf.writeTo(out, true);
        out.put(TERM + terms.of(SIGNED, maker.secret, 0, 0, out));
        int message = send();
        maker.keepPackage(message, crypt.hashOf(out), initSecret, leafSecret);
        return message;
    }

    public int propose(int member, int kind, int of)
            throws IndexOutOfBoundsException, IllegalArgumentException, IllegalStateException {
        Member sender = memberAt(member);
        if (kind < ADD || kind > REMOVE || kind == ADD && !isMessage(of)
                || kind == REMOVE && (of < 0 || of >= LEAVES)) {
            throw new IndexOutOfBoundsException("no such kind, message or leaf");
        }
        if (kind == ADD && !(letter.isRead(mail[of]) && letter.type == PACKAGE
                && crypt.isPackageRight(mail[of], 0, letter.leaf))) {
            throw new IllegalArgumentException("no package that is right");
        }
        if (mailSize >= MAX_MESSAGES || !sender.isIn || sender.kept >= MAX_PROPOSALS) {
            throw new IllegalStateException("out, or too many messages or proposals");
        }
        out.clear();
        out.put(PROPOSAL);
        out.putU32(sender.now.epoch);
        out.putU16(sender.now.leaf);
        writeContent(sender, kind, of);
        out.put(TERM + crypt.signWithContext(sender.secret, out, sender.now));
        out.put(TERM + crypt.tagOf(out, sender.now));
        int message = send();
        sender.keepProposal(message, crypt.hashOf(out));
        return message;
    }

    public int commit(int member, boolean path) throws IndexOutOfBoundsException, IllegalStateException {
        Member sender = memberAt(member);
        if (mailSize >= MAX_MESSAGES || !sender.isIn) {
            throw new IllegalStateException("out, or too many messages");
        }
        gatherChanges(sender);
        if (changes.adds > 0 && mailSize >= MAX_MESSAGES - 1) {
            throw new IllegalStateException("no place for the welcome");
        }
        Group now = sender.now;
        Group next = sender.pending;
        next.follow(now);
        changes.applyTo(next.tree);
        writeCommitHead(now);
        boolean hasPath = path || changes.needPath();
        out.put(hasPath ? 1 : 0);
        int commitSecret = hasPath ? writePath(sender, next) : ZERO;
        sender.carrySecrets(next, terms);
        if (hasPath) {
            this.path.tellAll(next);
        }
        out.put(TERM + crypt.signWithContext(sender.secret, out, now));
        next.confirmed = crypt.confirmedHash(now.interim, out, out.size);
        int joiner = crypt.joinerOf(now, commitSecret);
        int confirmation = crypt.startEpoch(next, joiner);
        out.put(TERM + confirmation);
        out.put(TERM + crypt.tagOf(out, now));
        int message = send();
        sender.pendingMessage = message;
        if (changes.adds > 0) {
            writeWelcomeHead(joiner, hasPath);
            writeInfo(sender, next, confirmation);
            send();
        }
        return message;
    }

    public int deliver(int message, int member) throws IndexOutOfBoundsException {
        Member reader = memberAt(member);
        if (!isMessage(message)) {
            throw new IndexOutOfBoundsException("no such message");
        }
        if (!letter.isRead(mail[message])) {
            return UNREADABLE;
        }
        switch (letter.type) {
            case PACKAGE:
                return crypt.isPackageRight(mail[message], 0, letter.leaf) ? TAKEN : BAD_SIGNATURE;
            case PROPOSAL:
                return taker.takeProposal(reader, mail[message], message);
            case COMMIT:
                return taker.takeCommit(reader, mail, message);
            default:
                return taker.takeWelcome(reader, mail, message);
        }
    }

    public int post() throws IllegalStateException {
        if (mailSize >= MAX_MESSAGES) {
            throw new IllegalStateException("too many messages");
        }
        int message = keepMessage(tape);
        tape.clear();
        return message;
    }

    public int make(int sort, int a, int b) throws IndexOutOfBoundsException, IllegalArgumentException {
        if (!isMakeable(sort, a, b)) {
            throw new IndexOutOfBoundsException("no such sort, label or known term");
        }
        int first = terms.numbered(a);
        if (sort == SEALED && terms.sortOf(first) != PUBLIC) {
            throw new IllegalArgumentException("sealed for what is no public key");
        }
        boolean ofTape = sort == HASH || sort == MAC || sort == DERIVED || sort == SIGNED;
        if (ofTape && tape.size > MAX_TAPE_IN_TERM) {
            throw new IllegalArgumentException("the tape is too long");
        }
        int made = makeTerm(sort, first, b);
        if (ofTape) {
            tape.clear();
        }
        terms.learn(made);
        return terms.tell(made);
    }

    public int compromise(int member) throws IndexOutOfBoundsException {
        memberAt(member).tellAll(terms);
        return terms.knownNumbers();
    }

    public boolean isKnown(int term) {
        return terms.knows(terms.numbered(term));
    }

    public int term(int term, int what) {
        int asked = terms.numbered(term);
        if (asked == 0) {
            return NONE;
        }
        switch (what) {
            case 0:
                return terms.sortOf(asked);
            case 1:
                return terms.tell(terms.firstOf(asked));
            case 2:
                boolean isLabel = terms.sortOf(asked) == DERIVED;
                return isLabel ? terms.secondOf(asked) : terms.tell(terms.secondOf(asked));
            case 3:
                return terms.tell(terms.thirdOf(asked));
            case 4:
                return terms.lengthOf(asked);
            default:
                return NONE;
        }
    }

    public int ofTerm(int term, int k) {
        int asked = terms.numbered(term);
        if (asked == 0 || k < 0 || k >= terms.lengthOf(asked)) {
            return NONE;
        }
        return tellSign(terms.signOf(asked, k));
    }

    public int message(int message) {
        return isMessage(message) ? mail[message].size : NONE;
    }

    public int sign(int message, int k) {
        if (!isMessage(message) || k < 0 || k >= mail[message].size) {
            return NONE;
        }
        return tellSign(mail[message].signs[k]);
    }

    public int member(int member, int what) {
        if (!isMember(member)) {
            return NONE;
        }
        Member asked = members[member];
        switch (what) {
            case 0:
                return asked.isIn ? 1 : 0;
            case 8:
                return asked.kept;
            case 9:
                return asked.updateCount;
            case 10:
                return asked.packages;
            case 11:
                return asked.pendingMessage == NONE ? 0 : 1;
            case 12:
                return asked.isIn ? asked.now.secretCount() : 0;
            default:
                return asked.isIn ? tellGroup(asked.now, what) : NONE;
        }
    }

    public int node(int member, int node, int what) {
        if (!isMember(member) || !members[member].isIn) {
            return NONE;
        }
        Group group = members[member].now;
        if (node < 0 || node >= group.tree.nodes()) {
            return NONE;
        }
        switch (what) {
            case 0:
                return terms.tell(group.tree.key[node]);
            case 1:
                return terms.tell(group.tree.parentHash[node]);
            case 2:
                return Integer.bitCount(group.tree.unmerged[node]);
            case 3:
                boolean isLeaf = (node & 1) == 0 && group.tree.key[node] != 0;
                return isLeaf ? group.tree.leaf[node >> 1].member : NONE;
            case 4:
                return group.tree.resolution(node, path.resolution);
            case 5:
                return group.secret[node] == 0 ? 0 : 1;
            default:
                return NONE;
        }
    }

    public int count(int what) {
        switch (what) {
            case 0:
                return terms.numbers;
            case 1:
                return mailSize;
            case 2:
                return terms.knownNumbers();
            case 3:
                return tape.size;
            default:
                return NONE;
        }
    }

    private static boolean isMember(int member) {
        return member >= 0 && member < MEMBERS;
    }

    private boolean isMessage(int message) {
        return message >= 0 && message < mailSize;
    }

    private Member memberAt(int member) {
        if (!isMember(member)) {
            throw new IndexOutOfBoundsException("no such member");
        }
        return members[member];
    }

    private void readyNumber(int at, int number) {
        ready[at] = number >>> 24;
        ready[at + 1] = number >>> 16 & 255;
        ready[at + 2] = number >>> 8 & 255;
        ready[at + 3] = number & 255;
    }

    private int tellSign(int sign) {
        return sign < TERM ? sign : TERM + terms.tell(sign - TERM);
    }

    private int tellGroup(Group group, int what) {
        switch (what) {
            case 1:
                return group.epoch;
            case 2:
                return group.leaf;
            case 3:
                return group.tree.depth;
            case 4:
                return terms.tell(group.treeHash);
            case 5:
                return terms.tell(group.confirmed);
            case 6:
                return terms.tell(group.interim);
            case 7:
                return terms.tell(group.epochSecret);
            default:
                return NONE;
        }
    }

    private int keepMessage(Row row) {
        Row kept = new Row(row.size);
        kept.putAll(row, 0, row.size);
        mail[mailSize] = kept;
        mailSize++;
        return mailSize - 1;
    }

    /** What members send, the intruder reads. */
    private int send() {
        for (int k = 0; k < out.size; k++) {
            if (out.signs[k] >= TERM) {
                terms.learn(out.signs[k] - TERM);
            }
        }
        return keepMessage(out);
    }

    private boolean isKnownNumber(int number) {
        return terms.knows(terms.numbered(number));
    }

    private boolean isMakeable(int sort, int a, int b) {
        if (sort < NAME || sort > SIGNED) {
            return false;
        }
        if (sort != NAME && sort != HASH && !isKnownNumber(a)) {
            return false;
        }
        if ((sort == MIXED || sort == SEALED) && !isKnownNumber(b)) {
            return false;
        }
        return sort != DERIVED || b >= 0 && b <= MAX_LABEL;
    }

    private int makeTerm(int sort, int first, int b) {
        switch (sort) {
            case NAME:
                return terms.name();
            case HASH:
                return terms.of(HASH, 0, 0, 0, tape);
            case DERIVED:
                return terms.of(DERIVED, first, b, 0, tape);
            case MIXED:
            case SEALED:
                return terms.of(sort, first, terms.numbered(b), 0, terms.nothing);
            case PUBLIC:
                return terms.of(PUBLIC, first, 0, 0, terms.nothing);
            default:
                return terms.of(sort, first, 0, 0, tape);
        }
    }

    private void writeLeaf(Member owner, int secret, int source) {
        ownLeaf.member = owner.number;
        ownLeaf.key = crypt.publicOf(secret);
        ownLeaf.signatureKey = owner.key;
        ownLeaf.source = source;
        ownLeaf.parentHash = 0;
        crypt.signLeaf(ownLeaf, owner.isIn ? owner.now.leaf : 0, owner.secret);
    }

    private void writeContent(Member sender, int kind, int of) {
        out.put(kind);
        if (kind == ADD) {
            int start = out.beginRow();
            out.putAll(mail[of], 0, mail[of].size);
            out.endRow(start);
        } else if (kind == UPDATE) {
            int secret = terms.name();
            writeLeaf(sender, secret, SOURCE_UPDATE);
            ownLeaf.writeTo(out, true);
            sender.keepUpdate(secret);
        } else {
            out.putU16(of);
        }
    }

    /** Takes the sender's proposals in order, leaving out each that is not right with those ahead. */
    private void gatherChanges(Member sender) {
        changes.clear();
        for (int k = 0; k < sender.kept; k++) {
            Row row = mail[sender.keptMessage[k]];
            boolean isTaken = changes.isTakenIn(row, CONTENT_IN_PROPOSAL, row.u16At(5), sender.now);
            if (isTaken && !changes.areRight(sender.now.tree, sender.now.leaf)) {
                changes.dropLast();
            }
        }
        changes.areRight(sender.now.tree, sender.now.leaf);
    }

    private void writeCommitHead(Group now) {
        out.clear();
        out.put(COMMIT);
        out.putU32(now.epoch);
        out.putU16(now.leaf);
        int start = out.beginRow();
        for (int k = 0; k < changes.size; k++) {
            if (changes.from[k] == now.leaf) {
                int at = changes.at[k];
                out.put(BY_CONTENT);
                out.putAll(changes.rows[k], at, at + Changes.contentSize(changes.kinds[k]));
            } else {
                out.put(BY_HASH);
                out.put(TERM + crypt.hashOf(changes.rows[k]));
            }
        }
        out.endRow(start);
    }

    /** Puts a new path into the next tree and writes it: the commit secret. */
    private int writePath(Member sender, Group next) {
        int leafSecret = terms.name();
        path.leafSecret = leafSecret;
        path.plan(next.tree, next.leaf, changes.added);
        int pathSecret = path.length > 0 ? terms.name() : leafSecret;
        for (int k = 0; k < path.length; k++) {
            path.secrets[k] = pathSecret;
            path.nodeSecrets[k] = crypt.derived(pathSecret, LABEL_NODE);
            path.keys[k] = crypt.publicOf(path.nodeSecrets[k]);
            pathSecret = crypt.derived(pathSecret, LABEL_PATH);
        }
        ownLeaf.member = sender.number;
        ownLeaf.key = crypt.publicOf(leafSecret);
        ownLeaf.signatureKey = sender.key;
        ownLeaf.source = SOURCE_COMMIT;
        ownLeaf.parentHash = path.putInto(next.tree, next.leaf, crypt);
        crypt.signLeaf(ownLeaf, next.leaf, sender.secret);
        next.tree.putLeaf(next.leaf, ownLeaf);
        ownLeaf.writeTo(out, true);
        writePathNodes(next.tree);
        return path.length > 0 ? pathSecret : crypt.derived(leafSecret, LABEL_PATH);
    }

    private void writePathNodes(Tree tree) {
        int start = out.beginRow();
        for (int k = 0; k < path.length; k++) {
            out.put(TERM + path.keys[k]);
            int sealedStart = out.beginRow();
            for (int s = path.sealedFrom[k]; s < path.sealedFrom[k + 1]; s++) {
                int key = tree.key[path.sealedFor[s]];
                out.put(TERM + terms.of(SEALED, key, path.secrets[k], 0, terms.nothing));
            }
            out.endRow(sealedStart);
        }
        out.endRow(start);
    }

    private void writeWelcomeHead(int joiner, boolean hasPath) {
        out.clear();
        out.put(WELCOME);
        int start = out.beginRow();
        for (int k = 0; k < changes.size; k++) {
            if (changes.kinds[k] == ADD) {
                int at = changes.at[k] + PACKAGE_IN_ADD;
                int index = hasPath ? path.indexAbove(changes.places[k]) : NONE;
                int pathSecret = index == NONE ? 0 : path.secrets[index];
                int initKey = changes.rows[k].termAt(at + 1);
                out.put(TERM + crypt.hashOfPart(changes.rows[k], at, at + PACKAGE_SIZE));
                out.put(TERM + terms.of(SEALED, initKey, joiner, pathSecret, terms.nothing));
            }
        }
        out.endRow(start);
    }

    private void writeInfo(Member sender, Group next, int confirmation) {
        int info = out.size;
        out.putU32(next.epoch);
        out.put(TERM + next.treeHash);
        out.putHash(next.confirmed);
        out.putU16(next.leaf);
        next.tree.writeTo(out);
        out.put(TERM + confirmation);
        out.put(TERM + crypt.signPart(sender.secret, out, info, out.size));
    }

    /** A row of signs, each a byte 0 .. 255, or TERM and a term. */
    private static final class Row {
        final int[] signs;
        int size;

        Row(int room) {
            signs = new int[room > 0 ? room : 0];
        }

        void clear() {
            size = 0;
        }

        void put(int sign) {
            if (size < signs.length) {
                signs[size] = sign;
                size++;
            }
        }

        void putHash(int hash) {
            put(hash == 0 ? 0 : TERM + hash);
        }

        void putU16(int number) {
            if (size + 2 <= signs.length) {
                signs[size] = number >>> 8 & 255;
                signs[size + 1] = number & 255;
                size += 2;
            }
        }

        void putU32(int number) {
            putU16(number >>> 16);
            putU16(number & 65535);
        }

        void putAll(Row from, int start, int end) {
            int length = end - start;
            if (start >= 0 && length > 0 && end <= from.size && size + length <= signs.length) {
                System.arraycopy(from.signs, start, signs, size, length);
                size += length;
            }
        }

        /** Leaves place for the length of a ROW, which endRow fills in. */
        int beginRow() {
            putU16(0);
            return size;
        }

        void endRow(int start) {
            if (start >= 2 && start <= size) {
                signs[start - 2] = size - start >>> 8 & 255;
                signs[start - 1] = size - start & 255;
            }
        }

        int termAt(int k) {
            return k >= 0 && k < size && signs[k] >= TERM ? signs[k] - TERM : 0;
        }

        int u16At(int k) {
            return k >= 0 && k + 1 < size ? signs[k] << 8 | signs[k + 1] : 0;
        }

        boolean isSame(Row other) {
            if (size != other.size) {
                return false;
            }
            for (int k = 0; k < size; k++) {
                if (signs[k] != other.signs[k]) {
                    return false;
                }
            }
            return true;
        }
    }

    /** All terms, each once, with what the intruder knows of them and the numbers they were told by. */
    private static final class Terms {
        private static final int SORT = 0;
        private static final int FIRST = 1;
        private static final int SECOND = 2;
        private static final int THIRD = 3;
        private static final int START = 4;
        private static final int LENGTH = 5;
        private static final int CODE = 6;
        private static final int CHAIN = 7;
        private static final int NUMBER = 8;
        private static final int KNOWN = 9;
        private static final int USERS = 10;
        private static final int NEXT_USER = 11;
        private static final int WIDTH = 14;
        private static final int SLOTS = 3;
        private static final int FIRST_ROOM = 128;

        final Row nothing = new Row(0);
        private int[] data = new int[FIRST_ROOM * WIDTH];
        private int size;
        private int[] signs = new int[4 * FIRST_ROOM];
        private int used;
        private int[] buckets = new int[FIRST_ROOM];
        private int[] byNumber = new int[FIRST_ROOM];
        private int numbers;
        private int[] waiting = new int[FIRST_ROOM];
        private int waitingSize;

        Terms() {
            learn(name());
            tell(ZERO);
        }

        int sortOf(int term) {
            return data[term * WIDTH + SORT];
        }

        int firstOf(int term) {
            return data[term * WIDTH + FIRST];
        }

        int secondOf(int term) {
            return data[term * WIDTH + SECOND];
        }

        int thirdOf(int term) {
            return data[term * WIDTH + THIRD];
        }

        int lengthOf(int term) {
            return data[term * WIDTH + LENGTH];
        }

        int signOf(int term, int k) {
            return signs[data[term * WIDTH + START] + k];
        }

        boolean knows(int term) {
            return data[term * WIDTH + KNOWN] != 0;
        }

        /** Whether a term may stand in a message that is read where one of this sort is due. */
        boolean isSeen(int term, int sort) {
            int at = term * WIDTH;
            return data[at + SORT] == sort && data[at + KNOWN] != 0;
        }

        /** Whether a term is of just these signs. */
        boolean hasSigns(int term, Row row) {
            int at = term * WIDTH;
            if (data[at + LENGTH] != row.size) {
                return false;
            }
            int start = data[at + START];
            for (int k = 0; k < row.size; k++) {
                if (signs[start + k] != row.signs[k]) {
                    return false;
                }
            }
            return true;
        }

        int name() {
            return add(NAME, 0, 0, 0, nothing, 0);
        }

        int of(int sort, int first, int second, int third, Row row) {
            int code = codeOf(sort, first, second, third, row);
            int term = buckets[code & buckets.length - 1];
            for (int left = size; left > 0 && term != 0; left--) {
                int at = term * WIDTH;
                if (data[at + CODE] == code && data[at + SORT] == sort && data[at + FIRST] == first
                        && data[at + SECOND] == second && data[at + THIRD] == third && hasSigns(term, row)) {
                    return term;
                }
                term = data[at + CHAIN];
            }
            return add(sort, first, second, third, row, code);
        }

        /** The term with this number, or 0. */
        int numbered(int number) {
            return number >= 1 && number <= numbers ? byNumber[number] : 0;
        }

        /** The number of a term, which it gets now if it has none; 0 for none. */
        int tell(int term) {
            if (term == 0) {
                return 0;
            }
            int at = term * WIDTH + NUMBER;
            if (data[at] == 0) {
                numbers++;
                if (numbers >= byNumber.length) {
                    byNumber = Arrays.copyOf(byNumber, byNumber.length * 2);
                }
                byNumber[numbers] = term;
                data[at] = numbers;
            }
            return data[at];
        }

        int knownNumbers() {
            int known = 0;
            for (int number = 1; number <= numbers; number++) {
                if (knows(byNumber[number])) {
                    known++;
                }
            }
            return known;
        }

        /** The intruder comes to know a term, and all that follows from it. */
        void learn(int term) {
            reveal(term);
            for (int left = size; left > 0 && waitingSize > 0; left--) {
                waitingSize--;
                spread(waiting[waitingSize]);
            }
        }

        private static int codeOf(int sort, int first, int second, int third, Row row) {
            int code = ((sort * 31 + first) * 31 + second) * 31 + third;
            for (int k = 0; k < row.size; k++) {
                code = code * 31 + row.signs[k];
            }
            code *= 0x9E3779B1;
            return code ^ code >>> 15;
        }

        private int add(int sort, int first, int second, int third, Row row, int code) {
            int term = size + 1;
            if ((term + 1) * WIDTH > data.length) {
                data = Arrays.copyOf(data, data.length * 2);
                waiting = Arrays.copyOf(waiting, waiting.length * 2);
            }
            if (used + row.size > signs.length) {
                signs = Arrays.copyOf(signs, (used + row.size) * 2);
            }
            System.arraycopy(row.signs, 0, signs, used, row.size);
            int at = term * WIDTH;
            data[at + SORT] = sort;
            data[at + FIRST] = first;
            data[at + SECOND] = second;
            data[at + THIRD] = third;
            data[at + START] = used;
            data[at + LENGTH] = row.size;
            data[at + CODE] = code;
            used += row.size;
            size = term;
            link(term, 0, first);
            if (sort == MIXED || sort == SEALED) {
                link(term, 1, second);
                link(term, 2, third);
            }
            data[at + KNOWN] = canMake(term) ? 1 : 0;
            int unchained = term;
            if (size > buckets.length) {
                buckets = new int[buckets.length * 2];
                unchained = 1;
            }
            for (int each = unchained; each <= term; each++) {
                chain(each);
            }
            return term;
        }

        /** NAMES are never looked for, as each is another one. */
        private void chain(int term) {
            int at = term * WIDTH;
            if (data[at + SORT] != NAME) {
                int bucket = data[at + CODE] & buckets.length - 1;
                data[at + CHAIN] = buckets[bucket];
                buckets[bucket] = term;
            }
        }

        /** Keeps, with each term, the list of those that are made of it. */
        private void link(int user, int slot, int part) {
            if (part != 0) {
                data[user * WIDTH + NEXT_USER + slot] = data[part * WIDTH + USERS];
                data[part * WIDTH + USERS] = user * SLOTS + slot;
            }
        }

        private int nextLink(int link) {
            return data[link / SLOTS * WIDTH + NEXT_USER + link % SLOTS];
        }

        /** Whether the intruder can make a term of what it knows, whatever signs are in it. */
        private boolean canMake(int term) {
            int at = term * WIDTH;
            int third = data[at + THIRD];
            boolean knowsFirst = data[data[at + FIRST] * WIDTH + KNOWN] != 0;
            switch (data[at + SORT]) {
                case NAME:
                    return false;
                case HASH:
                    return true;
                case MIXED:
                case SEALED:
                    return knowsFirst && data[data[at + SECOND] * WIDTH + KNOWN] != 0
                            && (third == 0 || data[third * WIDTH + KNOWN] != 0);
                default:
                    return knowsFirst;
            }
        }

        private void reveal(int term) {
            int at = term * WIDTH + KNOWN;
            if (term != 0 && data[at] == 0) {
                data[at] = 1;
                if (waitingSize < waiting.length) {
                    waiting[waitingSize] = term;
                    waitingSize++;
                }
            }
        }

        private void spread(int term) {
            openSealed(term);
            int link = data[term * WIDTH + USERS];
            for (int left = SLOTS * size; left > 0 && link != 0; left--) {
                int user = link / SLOTS;
                if (canMake(user)) {
                    reveal(user);
                }
                if (sortOf(user) == PUBLIC) {
                    openSealedFor(user);
                }
                link = nextLink(link);
            }
        }

        private void openSealedFor(int key) {
            int link = data[key * WIDTH + USERS];
            for (int left = SLOTS * size; left > 0 && link != 0; left--) {
                openSealed(link / SLOTS);
                link = nextLink(link);
            }
        }

        private void openSealed(int term) {
            if (sortOf(term) == SEALED && knows(term) && knows(firstOf(firstOf(term)))) {
                reveal(secondOf(term));
                reveal(thirdOf(term));
            }
        }
    }

    /** A LEAF: who is at a leaf of a tree, with which key. */
    private static final class Leaf {
        int member;
        int key;
        int signatureKey;
        int source;
        int parentHash;
        int signature;

        void copyFrom(Leaf other) {
            member = other.member;
            key = other.key;
            signatureKey = other.signatureKey;
            source = other.source;
            parentHash = other.parentHash;
            signature = other.signature;
        }

        /** Takes a LEAF of SOURCE 1 or 2 from a row that was read, where it is known to stand. */
        void takeFrom(Row row, int at) {
            if (at >= 0 && at + LEAF_SIZE <= row.size) {
                member = row.u16At(at);
                key = row.termAt(at + 2);
                signatureKey = row.termAt(at + 3);
                source = row.signs[at + 4];
                parentHash = 0;
                signature = row.termAt(at + 5);
            }
        }

        void writeTo(Row row, boolean withSignature) {
            row.putU16(member);
            row.put(TERM + key);
            row.put(TERM + signatureKey);
            row.put(source);
            if (source == SOURCE_COMMIT) {
                row.put(parentHash == 0 ? 0 : TERM + parentHash);
            }
            if (withSignature) {
                row.put(TERM + signature);
            }
        }

        boolean isSame(Leaf other) {
            return member == other.member && key == other.key && signatureKey == other.signatureKey
                    && source == other.source && parentHash == other.parentHash
                    && signature == other.signature;
        }
    }

    /** The tree of a group. A node without a key is BLANK; sets of leaves are bits. */
    private static final class Tree {
        int depth;
        final int[] key = new int[NODES];
        final int[] parentHash = new int[NODES];
        final int[] unmerged = new int[NODES];
        final Leaf[] leaf = new Leaf[LEAVES];

        Tree() {
            for (int k = 0; k < LEAVES; k++) {
                leaf[k] = new Leaf();
            }
        }

        static int height(int node) {
            return Integer.bitCount(node ^ node + 1) - 1;
        }

        /** The node of this height above a leaf, the leaf's own with height 0. */
        static int above(int leaf, int height) {
            return (leaf >> height << height + 1) + (1 << height) - 1;
        }

        static int firstLeaf(int node, int height) {
            return node >> height + 1 << height;
        }

        int leaves() {
            return 1 << depth;
        }

        int nodes() {
            return (2 << depth) - 1;
        }

        int top() {
            return (1 << depth) - 1;
        }

        void clear() {
            depth = 0;
            for (int node = 0; node < NODES; node++) {
                blank(node);
            }
        }

        void copyFrom(Tree other) {
            depth = other.depth;
            System.arraycopy(other.key, 0, key, 0, NODES);
            System.arraycopy(other.parentHash, 0, parentHash, 0, NODES);
            System.arraycopy(other.unmerged, 0, unmerged, 0, NODES);
            for (int k = 0; k < LEAVES; k++) {
                leaf[k].copyFrom(other.leaf[k]);
            }
        }

        boolean hasLeaf(int number) {
            return number >= 0 && number < leaves() && key[2 * number] != 0;
        }

        boolean hasKey(int asked) {
            for (int node = 0; node < nodes(); node++) {
                if (key[node] == asked) {
                    return true;
                }
            }
            return false;
        }

        int leafOf(int member) {
            for (int k = 0; k < leaves(); k++) {
                if (key[2 * k] != 0 && leaf[k].member == member) {
                    return k;
                }
            }
            return NONE;
        }

        void putLeaf(int number, Leaf put) {
            leaf[number].copyFrom(put);
            key[2 * number] = put.key;
            parentHash[2 * number] = put.parentHash;
        }

        void blank(int node) {
            key[node] = 0;
            parentHash[node] = 0;
            unmerged[node] = 0;
        }

        void blankWay(int number) {
            for (int height = 1; height <= depth; height++) {
                blank(above(number, height));
            }
        }

        void shrink() {
            for (int d = depth; d > 0 && isRightHalfBlank(); d--) {
                for (int node = top(); node < nodes(); node++) {
                    blank(node);
                }
                depth--;
            }
        }

        private boolean isRightHalfBlank() {
            for (int k = leaves() / 2; k < leaves(); k++) {
                if (key[2 * k] != 0) {
                    return false;
                }
            }
            return true;
        }

        /** Adds a leaf at the lowest place that is free, in a taller tree if none is: its place. */
        int addLeaf(Leaf added) {
            int place = 0;
            while (place < leaves() && key[2 * place] != 0) {
                place++;
            }
            if (place >= LEAVES) {
                return NONE;
            }
            if (place == leaves()) {
                depth++;
            }
            putLeaf(place, added);
            for (int height = 1; height <= depth; height++) {
                int node = above(place, height);
                if (key[node] != 0) {
                    unmerged[node] |= 1 << place;
                }
            }
            return place;
        }

        /** Puts the RESOLUTION of a node into a row: how many nodes it has. */
        int resolution(int node, int[] found) {
            int height = height(node);
            int at = firstLeaf(node, height);
            int end = at + (1 << height);
            int size = 0;
            while (at < end) {
                int filled = highestFilled(at, height);
                if (filled >= 0) {
                    size = putResolved(above(at, filled), found, size);
                }
                at += filled > 0 ? 1 << filled : 1;
            }
            return size;
        }

        /** The height of the highest node from a leaf up to a height that is not BLANK, or NONE. */
        private int highestFilled(int number, int height) {
            for (int h = height; h >= 0; h--) {
                if (key[above(number, h)] != 0) {
                    return h;
                }
            }
            return NONE;
        }

        private int putResolved(int node, int[] found, int size) {
            int next = size;
            if (next < found.length) {
                found[next] = node;
                next++;
            }
            for (int k = 0; k < LEAVES; k++) {
                if ((unmerged[node] >> k & 1) != 0 && next < found.length) {
                    found[next] = 2 * k;
                    next++;
                }
            }
            return next;
        }

        void writeTo(Row row) {
            int start = row.beginRow();
            for (int node = 0; node < nodes(); node++) {
                if (key[node] == 0) {
                    row.put(BLANK_NODE);
                } else if ((node & 1) == 0) {
                    row.put(LEAF_NODE);
                    leaf[node >> 1].writeTo(row, true);
                } else {
                    row.put(PARENT_NODE);
                    writeParent(row, node, 0);
                }
            }
            row.endRow(start);
        }

        /** A node's key, parent hash and ROW of UNMERGED leaves, without some of these. */
        void writeParent(Row row, int node, int without) {
            int left = unmerged[node] & ~without;
            row.put(TERM + key[node]);
            row.put(parentHash[node] == 0 ? 0 : TERM + parentHash[node]);
            row.putU16(2 * Integer.bitCount(left));
            for (int k = 0; k < LEAVES; k++) {
                if ((left >> k & 1) != 0) {
                    row.putU16(k);
                }
            }
        }
    }

    /** What a member has of its group in one epoch. */
    private static final class Group {
        final Tree tree = new Tree();
        final int[] secret = new int[NODES];
        int epoch;
        int leaf;
        int treeHash;
        int confirmed;
        int interim;
        int epochSecret;

        void clear() {
            tree.clear();
            Arrays.fill(secret, 0);
            epoch = 0;
            leaf = 0;
            confirmed = 0;
        }

        /** Becomes the epoch behind another one, with its tree as it is there. */
        void follow(Group before) {
            tree.copyFrom(before.tree);
            epoch = before.epoch + 1;
            leaf = before.leaf;
        }

        int secretCount() {
            int had = 0;
            for (int node = 0; node < NODES; node++) {
                if (secret[node] != 0) {
                    had++;
                }
            }
            return had;
        }

        void tellAll(Terms terms) {
            terms.learn(epochSecret);
            for (int node = 0; node < NODES; node++) {
                terms.learn(secret[node]);
            }
        }
    }

    /** A member, with all that it keeps. */
    private static final class Member {
        final int number;
        final int secret;
        final int key;
        boolean isIn;
        Group now = new Group();
        Group pending = new Group();
        int pendingMessage = NONE;
        int[] keptMessage = new int[MAX_PROPOSALS];
        int[] keptHash = new int[MAX_PROPOSALS];
        int kept;
        final int[] updates = new int[MAX_PROPOSALS];
        int updateCount;
        final int[] packageMessage = new int[MAX_PACKAGES];
        final int[] packageHash = new int[MAX_PACKAGES];
        final int[] initSecret = new int[MAX_PACKAGES];
        final int[] leafSecret = new int[MAX_PACKAGES];
        int packages;

        Member(int number, int secret, int key) {
            this.number = number;
            this.secret = secret;
            this.key = key;
        }

        /** Comes into an epoch: what the member had before, to be used for another one. */
        Group enter(Group next) {
            Group before = now;
            now = next;
            isIn = true;
            forget();
            return before;
        }

        void leave() {
            isIn = false;
            forget();
        }

        private void forget() {
            pendingMessage = NONE;
            kept = 0;
            updateCount = 0;
        }

        int indexOfProposal(int hash) {
            for (int k = 0; k < kept; k++) {
                if (keptHash[k] == hash) {
                    return k;
                }
            }
            return NONE;
        }

        void keepProposal(int message, int hash) {
            if (indexOfProposal(hash) != NONE) {
                return;
            }
            if (kept >= keptHash.length) {
                keptMessage = Arrays.copyOf(keptMessage, 2 * keptMessage.length);
                keptHash = Arrays.copyOf(keptHash, 2 * keptHash.length);
            }
            keptMessage[kept] = message;
            keptHash[kept] = hash;
            kept++;
        }

        void keepUpdate(int updateSecret) {
            if (updateCount < updates.length) {
                updates[updateCount] = updateSecret;
                updateCount++;
            }
        }

        int indexOfPackage(int hash) {
            for (int k = 0; k < packages; k++) {
                if (packageHash[k] == hash) {
                    return k;
                }
            }
            return NONE;
        }

        void keepPackage(int message, int hash, int init, int leaf) {
            if (packages < MAX_PACKAGES) {
                packageMessage[packages] = message;
                packageHash[packages] = hash;
                initSecret[packages] = init;
                leafSecret[packages] = leaf;
                packages++;
            }
        }

        void dropPackage(int index) {
            packages--;
            for (int k = index; k < packages; k++) {
                packageMessage[k] = packageMessage[k + 1];
                packageHash[k] = packageHash[k + 1];
                initSecret[k] = initSecret[k + 1];
                leafSecret[k] = leafSecret[k + 1];
            }
        }

        /** Gives a next epoch the secrets of nodes whose key is the same, and of its UPDATE if that goes. */
        void carrySecrets(Group next, Terms terms) {
            for (int node = 0; node < NODES; node++) {
                boolean isSame = next.tree.key[node] != 0 && next.tree.key[node] == now.tree.key[node];
                next.secret[node] = isSame ? now.secret[node] : 0;
            }
            int own = 2 * next.leaf;
            for (int k = 0; k < updateCount; k++) {
                if (next.tree.key[own] != 0 && terms.firstOf(next.tree.key[own]) == updates[k]) {
                    next.secret[own] = updates[k];
                }
            }
        }

        void tellAll(Terms terms) {
            terms.learn(secret);
            for (int k = 0; k < packages; k++) {
                terms.learn(initSecret[k]);
                terms.learn(leafSecret[k]);
            }
            for (int k = 0; k < updateCount; k++) {
                terms.learn(updates[k]);
            }
            if (isIn) {
                now.tellAll(terms);
            }
            if (pendingMessage != NONE) {
                pending.tellAll(terms);
            }
        }
    }

    /** What is hashed, signed and derived, and whether it is right. */
    private static final class Crypt {
        final Terms terms;
        final int[] secrets = new int[MEMBERS];
        final int[] keys = new int[MEMBERS];
        private final Row row = new Row(ROW_ROOM);
        private final int[] hashes = new int[NODES];
        private final int[] resolution = new int[RESOLUTION_ROOM];

        Crypt(Terms terms) {
            this.terms = terms;
            for (int m = 0; m < MEMBERS; m++) {
                secrets[m] = terms.name();
                keys[m] = terms.of(PUBLIC, secrets[m], 0, 0, terms.nothing);
                terms.learn(keys[m]);
                terms.tell(keys[m]);
            }
        }

        int publicOf(int secret) {
            return terms.of(PUBLIC, secret, 0, 0, terms.nothing);
        }

        int derived(int secret, int label) {
            return terms.of(DERIVED, secret, label, 0, terms.nothing);
        }

        int hashOf(Row signs) {
            return terms.of(HASH, 0, 0, 0, signs);
        }

        int hashOfPart(Row signs, int start, int end) {
            row.clear();
            row.putAll(signs, start, end);
            return terms.of(HASH, 0, 0, 0, row);
        }

        int signPart(int secret, Row signs, int start, int end) {
            row.clear();
            row.putAll(signs, start, end);
            return terms.of(SIGNED, secret, 0, 0, row);
        }

        int signWithContext(int secret, Row signs, Group group) {
            writeWithContext(signs, signs.size, group);
            return terms.of(SIGNED, secret, 0, 0, row);
        }

        void signLeaf(Leaf leaf, int number, int secret) {
            row.clear();
            leaf.writeTo(row, false);
            if (leaf.source != SOURCE_PACKAGE) {
                row.putU16(number);
            }
            leaf.signature = terms.of(SIGNED, secret, 0, 0, row);
        }

        int tagOf(Row signs, Group group) {
            return terms.of(MAC, derived(group.epochSecret, LABEL_MEMBERSHIP), 0, 0, signs);
        }

        int confirmedHash(int interim, Row signs, int end) {
            row.clear();
            row.put(TERM + interim);
            row.putAll(signs, 0, end);
            return terms.of(HASH, 0, 0, 0, row);
        }

        int joinerOf(Group before, int commitSecret) {
            int init = derived(before.epochSecret, LABEL_INIT);
            return terms.of(MIXED, init, commitSecret, 0, terms.nothing);
        }

        /** Gives an epoch, whose tree and CONFIRMED hash stand, its keys: its confirmation. */
        int startEpoch(Group group, int joiner) {
            group.treeHash = treeHash(group.tree, group.tree.top(), 0);
            row.clear();
            writeContext(group);
            group.epochSecret = terms.of(DERIVED, joiner, LABEL_EPOCH, 0, row);
            int key = derived(group.epochSecret, LABEL_CONFIRMATION);
            row.clear();
            row.putHash(group.confirmed);
            int confirmation = terms.of(MAC, key, 0, 0, row);
            row.put(TERM + confirmation);
            group.interim = terms.of(HASH, 0, 0, 0, row);
            return confirmation;
        }

        private void writeContext(Group group) {
            row.putU32(group.epoch);
            row.put(TERM + group.treeHash);
            row.putHash(group.confirmed);
        }

        private void writeWithContext(Row signs, int end, Group group) {
            row.clear();
            row.putAll(signs, 0, end);
            writeContext(group);
        }

        /** Whether a signature by a LEAF's signature key, of what stands in the row, is right. */
        private boolean isRowSigned(Leaf by, int signature) {
            return by.member >= 0 && by.member < MEMBERS && by.signatureKey == keys[by.member]
                    && terms.sortOf(signature) == SIGNED && terms.firstOf(signature) == secrets[by.member]
                    && terms.hasSigns(signature, row);
        }

        boolean isLeafSigned(Leaf leaf, int number) {
            row.clear();
            leaf.writeTo(row, false);
            if (leaf.source != SOURCE_PACKAGE) {
                row.putU16(number);
            }
            return isRowSigned(leaf, leaf.signature);
        }

        boolean isPartSigned(Leaf by, Row signs, int start, int end) {
            row.clear();
            row.putAll(signs, start, end);
            return isRowSigned(by, signs.termAt(end));
        }

        /** Whether the sign at this place is a right signature of all ahead of it and the context. */
        boolean isSignedWithContext(Leaf by, Row signs, int at, Group group) {
            writeWithContext(signs, at, group);
            return isRowSigned(by, signs.termAt(at));
        }

        /** Whether both signatures of a PACKAGE, which stands at this place, are right. */
        boolean isPackageSigned(Row signs, int at, Leaf leaf) {
            return isLeafSigned(leaf, 0) && isPartSigned(leaf, signs, at, at + PACKAGE_SIZE - 1);
        }

        boolean isPackageRight(Row signs, int at, Leaf leaf) {
            return signs.termAt(at + 1) != leaf.key && isPackageSigned(signs, at, leaf);
        }

        boolean isTagRight(Row signs, Group group) {
            int last = signs.size - 1;
            row.clear();
            row.putAll(signs, 0, last);
            int tag = signs.termAt(last);
            return terms.sortOf(tag) == MAC && terms.hasSigns(tag, row)
                    && terms.firstOf(tag) == derived(group.epochSecret, LABEL_MEMBERSHIP);
        }

        /** The TREE HASH of a node, as if some leaves were BLANK and in no UNMERGED. */
        int treeHash(Tree tree, int node, int without) {
            int top = Tree.height(node);
            int first = Tree.firstLeaf(node, top);
            for (int height = 0; height <= top; height++) {
                int at = Tree.above(first, height);
                for (int left = 1 << top - height; left > 0; left--) {
                    writeNode(tree, at, height, without);
                    hashes[at] = terms.of(HASH, 0, 0, 0, row);
                    at += 2 << height;
                }
            }
            return hashes[node];
        }

        private void writeNode(Tree tree, int node, int height, int without) {
            row.clear();
            if (height == 0) {
                int number = node >> 1;
                boolean isThere = tree.key[node] != 0 && (without >> number & 1) == 0;
                row.put(1);
                row.putU16(number);
                row.put(isThere ? 1 : 0);
                if (isThere) {
                    tree.leaf[number].writeTo(row, true);
                }
            } else {
                row.put(2);
                row.put(tree.key[node] != 0 ? 1 : 0);
                if (tree.key[node] != 0) {
                    tree.writeParent(row, node, without);
                }
                row.put(TERM + hashes[node - (1 << height - 1)]);
                row.put(TERM + hashes[node + (1 << height - 1)]);
            }
        }

        /** The PARENT HASH that is wanted below a node, from the tree hash of its other side. */
        int wantedHash(Tree tree, int node, int otherHash) {
            row.clear();
            row.put(TERM + tree.key[node]);
            row.putHash(tree.parentHash[node]);
            row.put(TERM + otherHash);
            return terms.of(HASH, 0, 0, 0, row);
        }

        boolean isSound(Tree tree) {
            if (!areLeavesOther(tree)) {
                return false;
            }
            for (int node = 1; node < tree.nodes(); node += 2) {
                if (tree.key[node] != 0) {
                    int reach = 1 << Tree.height(node) - 1;
                    if (!isUnmergedRight(tree, node) || !isSideRight(tree, node, node - reach)
                            && !isSideRight(tree, node, node + reach)) {
                        return false;
                    }
                }
            }
            return true;
        }

        private static boolean areLeavesOther(Tree tree) {
            for (int a = 0; a < tree.leaves(); a++) {
                for (int b = 0; b < a; b++) {
                    boolean areThere = tree.key[2 * a] != 0 && tree.key[2 * b] != 0;
                    if (areThere && (tree.key[2 * a] == tree.key[2 * b]
                            || tree.leaf[a].member == tree.leaf[b].member)) {
                        return false;
                    }
                }
            }
            return true;
        }

        private static boolean isUnmergedRight(Tree tree, int node) {
            int top = Tree.height(node);
            for (int number = 0; number < LEAVES; number++) {
                if ((tree.unmerged[node] >> number & 1) != 0) {
                    if (!tree.hasLeaf(number) || Tree.above(number, top) != node) {
                        return false;
                    }
                    for (int height = 1; height < top; height++) {
                        int between = Tree.above(number, height);
                        if (tree.key[between] != 0 && (tree.unmerged[between] >> number & 1) == 0) {
                            return false;
                        }
                    }
                }
            }
            return true;
        }

        /** Whether a side comes down to one node, with the parent hash that is wanted there. */
        private boolean isSideRight(Tree tree, int node, int side) {
            int size = tree.resolution(side, resolution);
            int found = 0;
            int last = 0;
            for (int k = 0; k < size; k++) {
                int one = resolution[k];
                boolean isUnmerged = (one & 1) == 0 && (tree.unmerged[node] >> (one >> 1) & 1) != 0;
                if (!isUnmerged) {
                    found++;
                    last = one;
                }
            }
            if (found != 1 || tree.parentHash[last] == 0) {
                return false;
            }
            int otherHash = treeHash(tree, 2 * node - side, tree.unmerged[node]);
            return tree.parentHash[last] == wantedHash(tree, node, otherHash);
        }

        boolean areLeavesSigned(Tree tree) {
            for (int k = 0; k < tree.leaves(); k++) {
                if (tree.key[2 * k] != 0 && !isLeafSigned(tree.leaf[k], k)) {
                    return false;
                }
            }
            return true;
        }
    }

    /** Reads a message: whether its signs are one of those that there are, and what stands in it. */
    private static final class Reader {
        private final Terms terms;
        private Row row;
        private int at;
        private int limit;
        private boolean isWrong;
        int type;
        int epoch;
        int sender;
        int kind;
        int rowStart;
        int rowEnd;
        int pathLength;
        final int[] pathKeys = new int[MAX_DEPTH];
        final int[] sealedStart = new int[MAX_DEPTH];
        final int[] sealedSize = new int[MAX_DEPTH];
        final Leaf leaf = new Leaf();
        final Tree tree = new Tree();

        Reader(Terms terms) {
            this.terms = terms;
            row = terms.nothing;
        }

        boolean isRead(Row message) {
            row = message;
            at = 0;
            limit = message.size;
            isWrong = false;
            type = limit > 0 ? message.signs[0] : 0;
            switch (type) {
                case PACKAGE:
                    readPackage();
                    break;
                case PROPOSAL:
                    readProposal();
                    break;
                case COMMIT:
                    readCommit();
                    break;
                case WELCOME:
                    readWelcome();
                    break;
                default:
                    isWrong = true;
            }
            return !isWrong && at == limit;
        }

        private int u8() {
            if (at >= limit || row.signs[at] >= TERM) {
                isWrong = true;
                return 0;
            }
            at++;
            return row.signs[at - 1];
        }

        private int u16() {
            if (at + 1 >= limit || row.signs[at] >= TERM || row.signs[at + 1] >= TERM) {
                isWrong = true;
                return 0;
            }
            at += 2;
            return row.signs[at - 2] << 8 | row.signs[at - 1];
        }

        private int u32() {
            int high = u16();
            return high << 16 | u16();
        }

        private int termOf(int sort) {
            if (at >= limit || row.signs[at] < TERM || !terms.isSeen(row.signs[at] - TERM, sort)) {
                isWrong = true;
                return 0;
            }
            at++;
            return row.signs[at - 1] - TERM;
        }

        /** Reads the byte 0, which stands for a hash where there is none, if it is next. */
        private boolean isZeroRead() {
            if (at < limit && row.signs[at] == 0) {
                at++;
                return true;
            }
            return false;
        }

        /** Narrows the reading to a ROW: where it ended before, for closeRow. */
        private int openRow() {
            int outer = limit;
            int end = u16() + at;
            if (end > outer) {
                isWrong = true;
            } else {
                limit = end;
            }
            return outer;
        }

        private void closeRow(int outer) {
            if (at != limit) {
                isWrong = true;
            }
            limit = outer;
        }

        private boolean hasMore() {
            return !isWrong && at < limit;
        }

        private void readLeaf(int source) {
            leaf.member = u16();
            leaf.key = termOf(PUBLIC);
            leaf.signatureKey = termOf(PUBLIC);
            leaf.source = u8();
            if (leaf.source < SOURCE_PACKAGE || leaf.source > SOURCE_COMMIT
                    || source != ANY_SOURCE && source != leaf.source) {
                isWrong = true;
            }
            leaf.parentHash = leaf.source != SOURCE_COMMIT || isZeroRead() ? 0 : termOf(HASH);
            leaf.signature = termOf(SIGNED);
        }

        private void readPackage() {
            if (u8() != PACKAGE) {
                isWrong = true;
            }
            termOf(PUBLIC);
            readLeaf(SOURCE_PACKAGE);
            termOf(SIGNED);
        }

        private void readContent() {
            kind = u8();
            if (kind == ADD) {
                int outer = openRow();
                readPackage();
                closeRow(outer);
            } else if (kind == UPDATE) {
                readLeaf(SOURCE_UPDATE);
            } else if (kind == REMOVE) {
                u16();
            } else {
                isWrong = true;
            }
        }

        private void readHead() {
            u8();
            epoch = u32();
            sender = u16();
        }

        private void readProposal() {
            readHead();
            readContent();
            termOf(SIGNED);
            termOf(MAC);
        }

        private void readCommit() {
            readHead();
            int outer = openRow();
            rowStart = at;
            rowEnd = limit;
            for (int left = limit - at; left > 0 && hasMore(); left--) {
                int by = u8();
                if (by == BY_HASH) {
                    termOf(HASH);
                } else if (by == BY_CONTENT) {
                    readContent();
                } else {
                    isWrong = true;
                }
            }
            closeRow(outer);
            pathLength = NONE;
            int hasPath = u8();
            if (hasPath == 1) {
                readPath();
            } else if (hasPath != 0) {
                isWrong = true;
            }
            termOf(SIGNED);
            termOf(MAC);
            termOf(MAC);
        }

        private void readPath() {
            readLeaf(SOURCE_COMMIT);
            int outer = openRow();
            pathLength = 0;
            for (int left = limit - at; left > 0 && hasMore(); left--) {
                int key = termOf(PUBLIC);
                int inner = openRow();
                int start = at;
                for (int more = limit - at; more > 0 && hasMore(); more--) {
                    termOf(SEALED);
                }
                closeRow(inner);
                if (pathLength < MAX_DEPTH) {
                    pathKeys[pathLength] = key;
                    sealedStart[pathLength] = start;
                    sealedSize[pathLength] = at - start;
                }
                pathLength++;
            }
            closeRow(outer);
        }

        private void readWelcome() {
            u8();
            int outer = openRow();
            rowStart = at;
            rowEnd = limit;
            for (int left = limit - at; left > 0 && hasMore(); left--) {
                termOf(HASH);
                termOf(SEALED);
            }
            closeRow(outer);
            epoch = u32();
            termOf(HASH);
            if (!isZeroRead()) {
                termOf(HASH);
            }
            sender = u16();
            readTree();
            termOf(MAC);
            termOf(SIGNED);
        }

        private void readTree() {
            tree.clear();
            int outer = openRow();
            int nodes = 0;
            for (int left = NODES; left > 0 && hasMore(); left--) {
                readNode(nodes);
                nodes++;
            }
            closeRow(outer);
            int depth = 0;
            while (depth < MAX_DEPTH && (2 << depth) - 1 < nodes) {
                depth++;
            }
            tree.depth = depth;
            if (tree.nodes() != nodes) {
                isWrong = true;
            }
        }

        private void readNode(int node) {
            int mark = u8();
            boolean isLeaf = (node & 1) == 0;
            if (mark == LEAF_NODE && isLeaf) {
                readLeaf(ANY_SOURCE);
                tree.putLeaf(node >> 1, leaf);
            } else if (mark == PARENT_NODE && !isLeaf) {
                tree.key[node] = termOf(PUBLIC);
                tree.parentHash[node] = isZeroRead() ? 0 : termOf(HASH);
                tree.unmerged[node] = readUnmerged();
            } else if (mark != BLANK_NODE) {
                isWrong = true;
            }
        }

        private int readUnmerged() {
            int outer = openRow();
            int unmerged = 0;
            int last = NONE;
            for (int left = limit - at; left > 0 && hasMore(); left--) {
                int number = u16();
                if (number <= last || number >= LEAVES) {
                    isWrong = true;
                } else {
                    unmerged |= 1 << number;
                    last = number;
                }
            }
            closeRow(outer);
            return unmerged;
        }
    }

    /** The proposals of one COMMIT. */
    private static final class Changes {
        // More than these are never right: sixteen leaves are changed once, and filled once, at most.
        private static final int ROOM = 2 * LEAVES;

        private final Crypt crypt;
        int size;
        int adds;
        final int[] kinds = new int[ROOM];
        final int[] from = new int[ROOM];
        final Row[] rows = new Row[ROOM];
        final int[] at = new int[ROOM];
        final int[] targets = new int[ROOM];
        final int[] places = new int[ROOM];
        final Leaf[] leaves = new Leaf[ROOM];
        int added;
        private int removed;
        private final int[] keys = new int[LEAVES];

        Changes(Crypt crypt) {
            this.crypt = crypt;
            for (int k = 0; k < ROOM; k++) {
                leaves[k] = new Leaf();
            }
        }

        static int contentSize(int kind) {
            if (kind == ADD) {
                return PACKAGE_IN_ADD + PACKAGE_SIZE;
            }
            return kind == UPDATE ? 1 + LEAF_SIZE : 3;
        }

        void clear() {
            size = 0;
        }

        void dropLast() {
            if (size > 0) {
                size--;
            }
        }

        boolean needPath() {
            return size == 0 || size > adds;
        }

        boolean isRemoved(int leaf) {
            return (removed >> leaf & 1) != 0;
        }

        /** Takes in the CONTENT at a place of a row that was read, if it is right by itself. */
        boolean isTakenIn(Row row, int place, int proposer, Group committer) {
            if (size >= ROOM || place < 0 || place >= row.size) {
                return false;
            }
            int kind = row.signs[place];
            boolean isRight;
            if (kind == ADD) {
                int pack = place + PACKAGE_IN_ADD;
                Leaf leaf = leaves[size];
                leaf.takeFrom(row, pack + LEAF_IN_PACKAGE);
                targets[size] = leaf.member;
                isRight = leaf.key != row.termAt(pack + 1) && crypt.isPackageSigned(row, pack, leaf);
            } else if (kind == UPDATE) {
                isRight = isUpdateRight(row, place, proposer, committer);
            } else {
                targets[size] = row.u16At(place + 1);
                isRight = committer.tree.hasLeaf(targets[size]);
            }
            if (isRight) {
                kinds[size] = kind;
                from[size] = proposer;
                rows[size] = row;
                at[size] = place;
                size++;
            }
            return isRight;
        }

        private boolean isUpdateRight(Row row, int place, int proposer, Group committer) {
            Leaf leaf = leaves[size];
            leaf.takeFrom(row, place + 1);
            targets[size] = proposer;
            return committer.tree.hasLeaf(proposer) && leaf.member == committer.tree.leaf[proposer].member
                    && crypt.isLeafSigned(leaf, proposer);
        }

        /** Whether all that were taken in are right with one another and for who commits. */
        boolean areRight(Tree tree, int committer) {
            int changed = 1 << committer;
            int joining = 0;
            removed = 0;
            adds = 0;
            for (int k = 0; k < size; k++) {
                int bit = 1 << targets[k];
                if (kinds[k] == ADD) {
                    if ((joining & bit) != 0) {
                        return false;
                    }
                    joining |= bit;
                    adds++;
                } else {
                    if ((changed & bit) != 0) {
                        return false;
                    }
                    changed |= bit;
                    removed |= kinds[k] == REMOVE ? bit : 0;
                }
            }
            return areJoinersRight(tree, joining) && areKeysOther(tree);
        }

        private boolean areJoinersRight(Tree tree, int joining) {
            int stay = 0;
            for (int k = 0; k < tree.leaves(); k++) {
                if (tree.key[2 * k] != 0 && !isRemoved(k)) {
                    stay++;
                    if ((joining >> tree.leaf[k].member & 1) != 0) {
                        return false;
                    }
                }
            }
            return stay + adds <= LEAVES;
        }

        private boolean areKeysOther(Tree tree) {
            int held = 0;
            for (int k = 0; k < tree.leaves(); k++) {
                if (tree.key[2 * k] != 0 && !isRemoved(k)) {
                    keys[held] = keyBehind(tree, k);
                    held++;
                }
            }
            for (int k = 0; k < size; k++) {
                if (kinds[k] == ADD && held < LEAVES) {
                    keys[held] = leaves[k].key;
                    held++;
                }
            }
            for (int a = 0; a < held; a++) {
                for (int b = 0; b < a; b++) {
                    if (keys[a] == keys[b]) {
                        return false;
                    }
                }
            }
            return true;
        }

        private int keyBehind(Tree tree, int leaf) {
            for (int k = 0; k < size; k++) {
                if (kinds[k] == UPDATE && targets[k] == leaf) {
                    return leaves[k].key;
                }
            }
            return tree.key[2 * leaf];
        }

        void applyTo(Tree tree) {
            for (int k = 0; k < size; k++) {
                if (kinds[k] == UPDATE) {
                    tree.putLeaf(targets[k], leaves[k]);
                    tree.blankWay(targets[k]);
                }
            }
            for (int k = 0; k < size; k++) {
                if (kinds[k] == REMOVE) {
                    tree.blank(2 * targets[k]);
                    tree.blankWay(targets[k]);
                }
            }
            tree.shrink();
            added = 0;
            for (int k = 0; k < size; k++) {
                if (kinds[k] == ADD) {
                    places[k] = tree.addLeaf(leaves[k]);
                    added |= 1 << places[k];
                }
            }
        }
    }

    /** The nodes above who commits that count, the lowest first. */
    private static final class Path {
        int length;
        final int[] nodes = new int[MAX_DEPTH];
        final int[] others = new int[MAX_DEPTH];
        final int[] keys = new int[MAX_DEPTH];
        final int[] secrets = new int[MAX_DEPTH];
        final int[] nodeSecrets = new int[MAX_DEPTH];
        int leafSecret;
        final int[] sealedFrom = new int[MAX_DEPTH + 1];
        final int[] sealedFor = new int[MAX_DEPTH * RESOLUTION_ROOM];
        final int[] resolution = new int[RESOLUTION_ROOM];

        /** Finds the nodes that count, and for whom the secret of each is sealed. */
        void plan(Tree tree, int leaf, int added) {
            length = 0;
            for (int height = 1; height <= tree.depth; height++) {
                int node = Tree.above(leaf, height);
                int other = 2 * node - Tree.above(leaf, height - 1);
                int size = tree.resolution(other, resolution);
                if (size > 0) {
                    nodes[length] = node;
                    others[length] = other;
                    putSealed(size, added);
                    length++;
                }
            }
        }

        private void putSealed(int size, int added) {
            int put = sealedFrom[length];
            for (int k = 0; k < size; k++) {
                int node = resolution[k];
                boolean isAdded = (node & 1) == 0 && (added >> (node >> 1) & 1) != 0;
                if (!isAdded && put < sealedFor.length) {
                    sealedFor[put] = node;
                    put++;
                }
            }
            sealedFrom[length + 1] = put;
        }

        int sealedCount(int index) {
            return sealedFrom[index + 1] - sealedFrom[index];
        }

        /** Puts the keys into the tree, with their parent hashes: the parent hash due in the LEAF. */
        int putInto(Tree tree, int leaf, Crypt crypt) {
            tree.blankWay(leaf);
            for (int k = 0; k < length; k++) {
                tree.key[nodes[k]] = keys[k];
            }
            int hash = 0;
            for (int k = length - 1; k >= 0; k--) {
                tree.parentHash[nodes[k]] = hash;
                int otherHash = crypt.treeHash(tree, others[k], 0);
                hash = crypt.wantedHash(tree, nodes[k], otherHash);
            }
            return hash;
        }

        /** The lowest node that counts above a leaf. */
        int indexAbove(int leaf) {
            for (int k = 0; k < length; k++) {
                if (Tree.above(leaf, Tree.height(nodes[k])) == nodes[k]) {
                    return k;
                }
            }
            return NONE;
        }

        /** Gives who made the path its secrets. */
        void tellAll(Group group) {
            group.secret[2 * group.leaf] = leafSecret;
            tellSecrets(group, 0);
        }

        void tellSecrets(Group group, int start) {
            for (int k = start; k < length; k++) {
                group.secret[nodes[k]] = nodeSecrets[k];
            }
        }
    }

    /** Takes messages that were read, or says what is wrong with them. */
    private static final class Taker {
        private final Terms terms;
        private final Crypt crypt;
        private final Reader letter;
        private final Changes changes;
        private final Path path;
        private final Leaf leaf = new Leaf();
        private Group spare = new Group();
        private int commitSecret;

        Taker(Crypt crypt, Reader letter, Changes changes, Path path) {
            this.terms = crypt.terms;
            this.crypt = crypt;
            this.letter = letter;
            this.changes = changes;
            this.path = path;
        }

        int takeProposal(Member reader, Row row, int message) {
            if (!reader.isIn || letter.epoch != reader.now.epoch) {
                return OTHER_EPOCH;
            }
            Tree tree = reader.now.tree;
            if (letter.sender == reader.now.leaf || !tree.hasLeaf(letter.sender)) {
                return NO_SENDER;
            }
            if (!crypt.isSignedWithContext(tree.leaf[letter.sender], row, row.size - 2, reader.now)
                    || !isContentSigned(row)) {
                return BAD_SIGNATURE;
            }
            if (!crypt.isTagRight(row, reader.now)) {
                return BAD_TAG;
            }
            reader.keepProposal(message, crypt.hashOf(row));
            return TAKEN;
        }

        private boolean isContentSigned(Row row) {
            if (letter.kind == ADD) {
                return crypt.isPackageSigned(row, CONTENT_IN_PROPOSAL + PACKAGE_IN_ADD, letter.leaf);
            }
            return letter.kind != UPDATE || crypt.isLeafSigned(letter.leaf, letter.sender);
        }

        int takeCommit(Member reader, Row[] mail, int message) {
            Row row = mail[message];
            if (!reader.isIn || letter.epoch != reader.now.epoch) {
                return OTHER_EPOCH;
            }
            if (letter.sender == reader.now.leaf) {
                return takeOwnCommit(reader, mail, row);
            }
            int wrong = checkSender(reader.now, row);
            if (wrong == TAKEN) {
                wrong = readChanges(reader, mail, row);
            }
            if (wrong == TAKEN) {
                spare.follow(reader.now);
                changes.applyTo(spare.tree);
                wrong = checkPath(spare.tree);
            }
            if (wrong == TAKEN && changes.isRemoved(reader.now.leaf)) {
                reader.leave();
                return TAKEN;
            }
            if (wrong == TAKEN) {
                reader.carrySecrets(spare, terms);
                wrong = openPath(spare, row);
            }
            return wrong == TAKEN ? enterNext(reader, row) : wrong;
        }

        private int checkSender(Group now, Row row) {
            if (!now.tree.hasLeaf(letter.sender)) {
                return NO_SENDER;
            }
            if (!crypt.isSignedWithContext(now.tree.leaf[letter.sender], row, row.size - 3, now)) {
                return BAD_SIGNATURE;
            }
            return crypt.isTagRight(row, now) ? TAKEN : BAD_TAG;
        }

        private int takeOwnCommit(Member reader, Row[] mail, Row row) {
            int pending = reader.pendingMessage;
            if (pending == NONE || !mail[pending].isSame(row)) {
                return NO_SENDER;
            }
            reader.pending = reader.enter(reader.pending);
            return TAKEN;
        }

        /** A HASH that is not known counts ahead of proposals that are wrong, wherever it stands. */
        private int readChanges(Member reader, Row[] mail, Row row) {
            changes.clear();
            boolean areRight = true;
            int at = letter.rowStart;
            for (int left = row.size; left > 0 && at + 1 < letter.rowEnd; left--) {
                if (row.signs[at] == BY_HASH) {
                    int index = reader.indexOfProposal(row.termAt(at + 1));
                    if (index == NONE) {
                        return UNKNOWN_PROPOSAL;
                    }
                    Row kept = mail[reader.keptMessage[index]];
                    areRight &= changes.isTakenIn(kept, CONTENT_IN_PROPOSAL, kept.u16At(5), reader.now);
                    at += 2;
                } else {
                    areRight &= changes.isTakenIn(row, at + 1, letter.sender, reader.now);
                    at += 1 + Changes.contentSize(row.signs[at + 1]);
                }
            }
            return areRight && changes.areRight(reader.now.tree, letter.sender) ? TAKEN : BAD_PROPOSALS;
        }

        /** Checks the PATH as far as all can, and puts it into the tree. */
        private int checkPath(Tree tree) {
            if (letter.pathLength == NONE) {
                return changes.needPath() ? BAD_PATH : TAKEN;
            }
            path.plan(tree, letter.sender, changes.added);
            if (path.length != letter.pathLength) {
                return BAD_PATH;
            }
            for (int k = 0; k < path.length; k++) {
                if (path.sealedCount(k) != letter.sealedSize[k]) {
                    return BAD_PATH;
                }
                path.keys[k] = letter.pathKeys[k];
            }
            if (letter.leaf.member != tree.leaf[letter.sender].member || tree.hasKey(letter.leaf.key)
                    || !crypt.isLeafSigned(letter.leaf, letter.sender)) {
                return BAD_PATH_LEAF;
            }
            if (path.putInto(tree, letter.sender, crypt) != letter.leaf.parentHash) {
                return BAD_PATH_LEAF;
            }
            tree.putLeaf(letter.sender, letter.leaf);
            return TAKEN;
        }

        /** Opens what is sealed for the reader, and comes to the secrets from there up. */
        private int openPath(Group next, Row row) {
            commitSecret = ZERO;
            if (letter.pathLength == NONE) {
                return TAKEN;
            }
            int index = path.indexAbove(next.leaf);
            int sealed = index == NONE ? 0 : sealedFor(next, row, index);
            if (sealed == 0 || terms.thirdOf(sealed) != 0) {
                return CANNOT_OPEN;
            }
            int secret = terms.secondOf(sealed);
            for (int k = index; k < path.length; k++) {
                path.nodeSecrets[k] = crypt.derived(secret, LABEL_NODE);
                if (terms.firstOf(path.keys[k]) != path.nodeSecrets[k]) {
                    return BAD_KEY;
                }
                secret = crypt.derived(secret, LABEL_PATH);
            }
            commitSecret = secret;
            path.tellSecrets(next, index);
            return TAKEN;
        }

        /** The SEALED for the first node whose secret the reader has, if that opens it; else 0. */
        private int sealedFor(Group next, Row row, int index) {
            int first = path.sealedFrom[index];
            for (int k = first; k < path.sealedFrom[index + 1]; k++) {
                int node = path.sealedFor[k];
                if (next.secret[node] != 0) {
                    int sealed = row.termAt(letter.sealedStart[index] + k - first);
                    return terms.firstOf(sealed) == next.tree.key[node] ? sealed : 0;
                }
            }
            return 0;
        }

        private int enterNext(Member reader, Row row) {
            spare.confirmed = crypt.confirmedHash(reader.now.interim, row, row.size - 2);
            int joiner = crypt.joinerOf(reader.now, commitSecret);
            if (crypt.startEpoch(spare, joiner) != row.termAt(row.size - 2)) {
                return BAD_CONFIRMATION;
            }
            spare = reader.enter(spare);
            return TAKEN;
        }

        int takeWelcome(Member reader, Row[] mail, int message) {
            Row row = mail[message];
            if (reader.isIn) {
                return OTHER_EPOCH;
            }
            int at = placeInWelcome(reader, row);
            if (at == NONE) {
                return NOT_FOR_ME;
            }
            int index = reader.indexOfPackage(row.termAt(at));
            int sealed = row.termAt(at + 1);
            if (terms.firstOf(terms.firstOf(sealed)) != reader.initSecret[index]) {
                return NOT_FOR_ME;
            }
            Tree tree = letter.tree;
            if (crypt.treeHash(tree, tree.top(), 0) != row.termAt(letter.rowEnd + 4)) {
                return BAD_TREE_HASH;
            }
            leaf.takeFrom(mail[reader.packageMessage[index]], LEAF_IN_PACKAGE);
            int place = tree.leafOf(reader.number);
            if (!crypt.isSound(tree) || !crypt.areLeavesSigned(tree)
                    || place == NONE || !tree.leaf[place].isSame(leaf)) {
                return BAD_TREE;
            }
            if (!tree.hasLeaf(letter.sender)
                    || !crypt.isPartSigned(tree.leaf[letter.sender], row, letter.rowEnd, row.size - 1)) {
                return BAD_SIGNATURE;
            }
            int wrong = join(place, row, sealed);
            if (wrong == TAKEN) {
                spare.secret[2 * place] = reader.leafSecret[index];
                spare = reader.enter(spare);
                reader.dropPackage(index);
            }
            return wrong;
        }

        /** Where the first HASH of a PACKAGE of the reader stands. */
        private int placeInWelcome(Member reader, Row row) {
            for (int at = letter.rowStart; at + 1 < letter.rowEnd; at += 2) {
                if (reader.indexOfPackage(row.termAt(at)) != NONE) {
                    return at;
                }
            }
            return NONE;
        }

        private int join(int place, Row row, int sealed) {
            spare.clear();
            spare.tree.copyFrom(letter.tree);
            spare.epoch = letter.epoch;
            spare.leaf = place;
            spare.confirmed = row.termAt(letter.rowEnd + 5);
            if (crypt.startEpoch(spare, terms.secondOf(sealed)) != row.termAt(row.size - 2)) {
                return BAD_CONFIRMATION;
            }
            int pathSecret = terms.thirdOf(sealed);
            return pathSecret == 0 ? TAKEN : climb(spare, pathSecret);
        }

        /** Comes from the path secret to those of the nodes above the leaf and who committed. */
        private int climb(Group group, int pathSecret) {
            Tree tree = group.tree;
            int height = 1;
            while (height <= tree.depth
                    && Tree.above(group.leaf, height) != Tree.above(letter.sender, height)) {
                height++;
            }
            if (height > tree.depth || tree.key[Tree.above(group.leaf, height)] == 0) {
                return BAD_KEY;
            }
            int secret = pathSecret;
            for (int h = height; h <= tree.depth; h++) {
                int node = Tree.above(group.leaf, h);
                if (tree.key[node] != 0) {
                    group.secret[node] = crypt.derived(secret, LABEL_NODE);
                    if (terms.firstOf(tree.key[node]) != group.secret[node]) {
                        return BAD_KEY;
                    }
                    secret = crypt.derived(secret, LABEL_PATH);
                }
            }
            return TAKEN;
        }
    }
}
