/** A ChainVotes that counts its calls: behind the 512th an answer is free, so no test may look at one. */
final class Votes {
    static final int NONE = -1;
    private static final int LAST_CALL = 512;
    private final ChainVotes inner = new ChainVotes();
    private int calls = 0;

    private ChainVotes called() {
        calls++;
        if (calls > LAST_CALL) throw new AssertionError("the test's own flaw: an object was called more than " + LAST_CALL + " times");
        return inner;
    }

    int calls() { return calls; }

    // ---------------------------------------------------------------- the face

    boolean nodes(int n) { return called().nodes(n); }
    boolean mode(int node, int m) { return called().mode(node, m); }
    int propose(int node, int payload) { return called().propose(node, payload); }
    boolean timeout(int node) { return called().timeout(node); }
    int lie(int node, int what, int a, int v, int payload) { return called().lie(node, what, a, v, payload); }
    int deliver(int k) { return called().deliver(k); }
    int drop(int k) { return called().drop(k); }
    int lose(int node) { return called().lose(node); }
    int leaders(int rule) { return called().leaders(rule); }
    boolean cut(int a, int b, boolean is) { return called().cut(a, b, is); }
    int reach(int node) { return called().reach(node); }
    int since(int node, int what) { return called().since(node, what); }
    int state(int v) { return called().state(v); }
    boolean ask(int node, int other) { return called().ask(node, other); }
    int storm(int n, int d) { return called().storm(n, d); }
    boolean turn(int m) { return called().turn(m); }
    int calm(int r) { return called().calm(r); }
    int feed(int a, int b, int c, int d, int e) { return called().feed(a, b, c, d, e); }
    boolean end(int n) { return called().end(n); }
    int plan() { return called().plan(); }
    int fault(int what) { return called().fault(what); }
    int run(int k) { return called().run(k); }
    int node(int node, int what) { return called().node(node, what); }
    int log(int node, int i) { return called().log(node, i); }
    int block(int b, int what) { return called().block(b, what); }
    int marks(int node, int b) { return called().marks(node, b); }
    int timeouts(int node, int v) { return called().timeouts(node, v); }
    int message(int i, int what) { return called().message(i, what); }
    int evidence(int i, int what) { return called().evidence(i, what); }
    int event(int i, int what) { return called().event(i, what); }
    int ledger(int of, boolean block, int a) { return called().ledger(of, block, a); }
    int without(int node) { return called().without(node); }
    int audit(int what) { return called().audit(what); }
    int pending(int node, int kind) { return called().pending(node, kind); }
    int path(int b, int i) { return called().path(b, i); }
    int markers(int node, int b) { return called().markers(node, b); }
    int best(int what) { return called().best(what); }
    int soon() { return called().soon(); }
    int two(int a, int b, int what) { return called().two(a, b, what); }
    int would(int node, int b) { return called().would(node, b); }
    int chain(int b, int what) { return called().chain(b, what); }
    boolean image(boolean taken) { return called().image(taken); }
    int look(int what) { return called().look(what); }

    // ---------------------------------------------------------------- what many tests begin with

    /** So many NODES, all of them liars. */
    static Votes liars(int n) {
        Votes x = new Votes();
        if (n != 4) x.nodes(n);
        for (int i = 0; i < n; i++) x.mode(i, 2);
        return x;
    }

    /** Something of all: BLOCKS, MESSAGES of each KIND, a liar, a CUT, a plan half run, a TAPE, EVENTS, STATE. */
    static Votes busy() {
        Votes x = new Votes();
        x.state(12345);
        x.mode(3, 2);
        x.propose(1, 7);
        x.deliver(0);
        x.deliver(0);
        x.timeout(3);
        x.cut(0, 3, true);
        x.planOf("lose 6;calm 1;drop 1;");
        x.run(1);
        x.feed(1, 2, 3, 4, 5);
        return x;
    }

    void deliverAll() {
        for (int i = 0; i < 500 && deliver(0) != NONE; i++) { }
    }

    /** Takes all MESSAGES out of the row, undelivered. */
    void empty() {
        int n = look(0);
        for (int i = 0; i < n; i++) lose(i);
    }

    /** Marks of QUORUM for a BLOCK, by lies, in an empty NET. */
    void certify(int b) {
        int quorum = look(2);
        for (int i = 0; i < quorum; i++) lie(i, 0, b, 0, 0);
        deliverAll();
    }

    /** A BLOCK on a certified one by the liar that leads its VIEW (by RULE 0), certified by lies; nobody was shown it. */
    int forge(int on, int view) {
        int b = lie(view % look(0), 1, on, view, 0);
        empty();
        certify(b);
        return b;
    }

    /** Brings all liars to a VIEW, by timeouts of QUORUM for the one ahead. */
    void toView(int view) {
        int quorum = look(2);
        for (int i = 0; i < quorum; i++) lie(i, 2, 0, view - 1, 0);
        deliverAll();
    }

    /** So many MESSAGES more, timeouts for VIEW 150 by a liar; the rest of the last send is dropped from the row's end. */
    void fill(int liar, int messages) {
        int n = look(0);
        int before = look(4);
        for (int sent = 0; sent < messages; sent += n) lie(liar, 2, 0, 150, 0);
        for (int k = look(4) - 1; k >= before + messages; k--) drop(k);
    }

    /** BLOCKS of VIEW 1 by the liar 1 till there are so many; the NET is empty then. */
    void blocksTill(int count) {
        for (int b = look(3); b < count; b++) lie(1, 1, 0, 1, 0);
        empty();
    }

    /** Puts a text on the TAPE. */
    void write(String text) {
        end(0);
        int full = (text.length() + 19) / 20 * 20;
        int[] n = new int[full / 4];
        for (int i = 0; i < full; i++) n[i / 4] = n[i / 4] << 8 | (i < text.length() ? text.charAt(i) : '?');
        for (int i = 0; i < n.length; i += 5) feed(n[i], n[i + 1], n[i + 2], n[i + 3], n[i + 4]);
        end(text.length());
    }

    int planOf(String text) {
        write(text);
        return plan();
    }

    /** All that can be seen of an object with a few BLOCKS and MESSAGES. */
    String picture() {
        StringBuilder s = new StringBuilder();
        for (int w = 0; w <= 20; w++) put(s, "look", w, look(w));
        put(s, "fault", 0, fault(0));
        put(s, "fault", 1, fault(1));
        int n = look(0);
        int blocks = look(3);
        for (int i = 0; i < n; i++) {
            for (int w = 0; w <= 12; w++) put(s, "node " + i, w, node(i, w));
            for (int w = 4; w <= 6; w++) put(s, "since " + i, w, since(i, w));
            for (int k = 0; log(i, k) != NONE; k++) put(s, "log " + i, k, log(i, k));
            for (int b = 1; b < blocks; b++) put(s, "markers " + i, b, markers(i, b));
            for (int v = 1; v <= 3; v++) put(s, "timeouts " + i, v, timeouts(i, v));
            put(s, "reach", i, reach(i));
        }
        for (int b = 1; b < blocks; b++) for (int w = 0; w <= 7; w++) put(s, "block " + b, w, block(b, w));
        for (int i = 0; message(i, 0) != -2; i++) for (int w = 0; w <= 4; w++) put(s, "message " + i, w, message(i, w));
        for (int i = 0; evidence(i, 0) != NONE; i++) for (int w = 0; w <= 4; w++) put(s, "evidence " + i, w, evidence(i, w));
        for (int i = 0; event(i, 0) != NONE; i++) for (int w = 0; w <= 2; w++) put(s, "event " + i, w, event(i, w));
        return s.toString();
    }

    private static void put(StringBuilder s, String what, int which, int answer) {
        s.append(what).append(' ').append(which).append(": ").append(answer).append('\n');
    }
}
