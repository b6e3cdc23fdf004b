/** The example of README.md, call by call: it answers as it says there. */
public final class ReadmeTest {
    private static final Expect E = new Expect();

    public static void main(String[] args) {
        KeyGroups x = new KeyGroups();
        x.create(0);
        int pack = x.offer(1);
        x.propose(0, 1, pack);
        int commit = x.commit(0, true);
        E.is("the commit comes to who made it", x.deliver(commit, 0), 0);
        E.is("epoch 1", x.member(0, 1), 1);
        E.is("the welcome is the next message", x.deliver(commit + 1, 1), 0);
        E.is("member 1 is in", x.member(1, 0), 1);
        removal(x);
        compromise(x);
        E.finish();
    }

    private static void removal(KeyGroups x) {
        int remove = x.propose(0, 3, 1);
        x.copy(remove, 0, 9);
        x.feed(5 << 24, 0, 0, 0, 0);
        x.end(1);
        x.copy(remove, 10, 2);
        int changed = x.post();
        E.is("another leaf, as many signs", x.message(changed), x.message(remove));
        E.is("the signature is not right", x.deliver(changed, 1), 4);
        E.is("taken", x.deliver(remove, 1), 0);
    }

    private static void compromise(KeyGroups x) {
        int secret = x.member(1, 7);
        E.is("not known", !x.isKnown(secret));
        x.compromise(1);
        E.is("known", x.isKnown(secret));
    }
}
