/** One test or more for each promise of the document, 1 to 44: ordinary inputs, the edges, wrong inputs. */
public final class PromiseTests {
    private static final int NONE = -1;
    private static final int NO_NUMBER = -100000;
    private static final int MIN = Integer.MIN_VALUE;
    private static final int MAX = Integer.MAX_VALUE;
    private static int wrong = 0;
    private static int promise = 0;

    private static void due(String what, int got, int want) {
        if (got != want) {
            wrong++;
            System.out.println("promise " + promise + ": " + what + " answered " + got + ", due is " + want);
        }
    }

    private static void due(String what, boolean got, boolean want) {
        due(what, got ? 1 : 0, want ? 1 : 0);
    }

    // ---------------------------------------------------------------- helpers

    /** An object in which these NODES lie. */
    private static Votes liars(int... who) {
        Votes x = new Votes();
        for (int i : who) x.mode(i, 2);
        return x;
    }

    private static void deliverAll(Votes x) {
        while (x.deliver(0) != NONE) { }
    }

    private static void emptyNet(Votes x) {
        for (int i = 0; i < x.look(0); i++) x.lose(i);
    }

    /** Brings all NODES of an object with four liars to a VIEW by timeouts for the VIEW ahead. */
    private static void goToView(Votes x, int view) {
        for (int i = 0; i < x.look(2); i++) x.lie(i, 2, 0, view - 1, 0);
        deliverAll(x);
    }

    /** A BLOCK on a certified one, by a lie, certified by lies too; its number. */
    private static int forge(Votes x, int on, int view) {
        int b = x.lie(view % x.look(0), 1, on, view, 0);
        emptyNet(x);
        for (int i = 0; i < x.look(2); i++) x.lie(i, 0, b, 0, 0);
        deliverAll(x);
        return b;
    }

    /** Puts a text on the TAPE. */
    private static void write(Votes x, String text) {
        x.end(0);
        int full = (text.length() + 19) / 20 * 20;
        int[] n = new int[full / 4];
        for (int i = 0; i < full; i++) n[i / 4] = n[i / 4] << 8 | (i < text.length() ? text.charAt(i) : 'z');
        for (int i = 0; i < n.length; i += 5) x.feed(n[i], n[i + 1], n[i + 2], n[i + 3], n[i + 4]);
        due("end of '" + text + "'", x.end(text.length()), true);
    }

    private static int plan(Votes x, String text) {
        write(x, text);
        return x.plan();
    }

    /** The plan is refused for that FAULT at that place. */
    private static void faulty(String text, int fault, int place) {
        Votes x = new Votes();
        plan(x, "calm 1;calm 2;");
        due("plan '" + text + "'", plan(x, text), NONE);
        due("fault(0) of '" + text + "'", x.fault(0), fault);
        due("fault(1) of '" + text + "'", x.fault(1), place);
        due("look(9) behind '" + text + "'", x.look(9), 2);
    }

    private static String repeat(String text, int times) {
        StringBuilder s = new StringBuilder();
        for (int i = 0; i < times; i++) s.append(text);
        return s.toString();
    }

    // ---------------------------------------------------------------- the promises

    private static void newObject() {
        promise = 1;
        Votes x = new Votes();
        int[] looks = {4, 1, 3, 1, 0, 0, 0, 0, 0, 0, 0, 0, 1, 1, 0, 0, 0, 0, 0, 0, 0};
        for (int w = 0; w < looks.length; w++) due("look(" + w + ")", x.look(w), looks[w]);
        int[] zero = {0, -1, 0, 0, -1, 0, 0, 1};
        for (int w = 0; w < zero.length; w++) due("block(0, " + w + ")", x.block(0, w), zero[w]);
        int[] node = {0, 1, 0, 0, 0, 0, 0, 0, 1, 0, 0, 0, 1};
        for (int w = 0; w < node.length; w++) due("node(2, " + w + ")", x.node(2, w), node[w]);
        due("fault(0)", x.fault(0), 0);
        due("fault(1)", x.fault(1), NONE);
        due("NONE", ChainVotes.NONE, -1);
    }

    private static void nodes() {
        promise = 2;
        Votes x = new Votes();
        int[] faults = {1, 1, 1, 2};
        int[] quorums = {3, 4, 5, 5};
        for (int n = 4; n <= 7; n++) {
            due("nodes " + n, x.nodes(n), true);
            due("look(0)", x.look(0), n);
            due("look(1)", x.look(1), faults[n - 4]);
            due("look(2)", x.look(2), quorums[n - 4]);
            due("its last node", x.node(n - 1, 1), 1);
            due("none behind", x.node(n, 1), NONE);
        }
        due("nodes(3)", x.nodes(3), false);
        due("nodes(8)", x.nodes(8), false);
        due("nodes(MIN)", x.nodes(MIN), false);
        due("look(0) stays", x.look(0), 7);

        x = new Votes();
        plan(x, "timeout 0;timeout 1;timeout 2;timeout 3;");
        x.run(4);
        due("not with messages", x.nodes(4), false);
        deliverAll(x);
        due("proof", x.node(0, 7), 1);
        due("events", x.look(15), 4);
        x.state(77);
        x.leaders(2);
        x.cut(0, 1, true);
        x.mode(2, 1);
        x.timeout(0);
        emptyNet(x);
        due("cut off", x.look(19), 1);
        due("nodes(5)", x.nodes(5), true);
        int[] node = {0, 1, 0, 0, 0, 0, 0, 0, 1, 0, 0, 0, 1};
        for (int i = 0; i < 5; i++) {
            for (int w = 0; w < node.length; w++) {
                if (w != 11) due("node(" + i + ", " + w + ") anew", x.node(i, w), node[w]);
            }
            due("timeouts anew", x.timeouts(i, 1), 0);
            due("reach anew", x.reach(i), 31);
        }
        due("events stay", x.look(15), 4);
        due("state stays", x.look(14), 77);
        due("rule stays", x.look(16), 2);
        due("delivered stays", x.look(11), 16);
        due("cut count stays", x.look(19), 1);
        due("plan stays", x.look(9), 4);
        due("plan's run lines stay", x.look(10), 4);
        due("cut couples are gone", x.look(20), 0);
        x.propose(1, 0);
        emptyNet(x);
        due("not with a block", x.nodes(4), false);
        due("look(0) stays 5", x.look(0), 5);
    }

    private static void mode() {
        promise = 3;
        Votes x = new Votes();
        for (int m = 0; m <= 2; m++) {
            due("mode(3, " + m + ")", x.mode(3, m), true);
            due("node(3, 0)", x.node(3, 0), m);
        }
        due("mode(4, 0)", x.mode(4, 0), false);
        due("mode(-1, 0)", x.mode(-1, 0), false);
        due("mode(0, -1)", x.mode(0, -1), false);
        due("mode(0, 3)", x.mode(0, 3), false);
        due("mode(MAX, 1)", x.mode(MAX, 1), false);
        due("node(0, 0)", x.node(0, 0), 0);
        x.mode(1, 1);
        due("a silent one can't propose", x.propose(1, 0), NONE);
        due("nor time out", x.timeout(1), false);
        x.mode(1, 0);
        due("an honest one can", x.propose(1, 0), 1);
        x.mode(0, 1);
        due("delivered to a silent one", x.deliver(0), 1);
        due("counts", x.look(11), 1);
        due("but is not taken", x.since(0, 4), 0);
        due("no vote of it", x.node(0, 2), 0);
        x.mode(1, 2);
        due("delivered to a liar", x.deliver(0), 1);
        due("is voted for", x.node(1, 2), 1);
    }

    private static void propose() {
        promise = 4;
        Votes x = new Votes();
        due("not the leader", x.propose(0, 0), NONE);
        due("no node", x.propose(4, 0), NONE);
        due("no node -1", x.propose(-1, 0), NONE);
        due("payload -1", x.propose(1, -1), NONE);
        due("payload 1000", x.propose(1, 1000), NONE);
        due("nothing yet", x.look(3), 1);
        due("the leader", x.propose(1, 999), 1);
        int[] one = {1, 0, 0, 999, 1, 1, 1, 0};
        for (int w = 0; w < one.length; w++) due("block(1, " + w + ")", x.block(1, w), one[w]);
        due("PROPOSED", x.node(1, 3), 1);
        due("once a view", x.propose(1, 0), NONE);
        due("sent to all", x.look(4), 4);
        for (int i = 0; i < 4; i++) {
            int[] m = {1, i, 1, 1, NONE};
            for (int w = 0; w < 5; w++) due("message(" + i + ", " + w + ")", x.message(i, w), m[w]);
        }
        deliverAll(x);
        due("the next leader is on", x.node(2, 1), 2);
        due("it proposes", x.propose(2, 0), 2);
        due("on the certified one", x.block(2, 1), 1);
        due("which it carries", x.block(2, 2), 1);
        due("not proved", x.block(2, 6), 0);
        due("height", x.block(2, 5), 2);

        x = new Votes();
        for (int i = 0; i < 4; i++) x.timeout(i);
        deliverAll(x);
        due("behind a proof", x.propose(2, 5), 1);
        due("view 2", x.block(1, 0), 2);
        due("proved", x.block(1, 6), 1);
        due("on 0", x.block(1, 1), 0);

        x = liars(0, 1, 2, 3);
        goToView(x, 200);
        due("view 200", x.node(0, 1), 200);
        due("can at 200", x.propose(0, 0), 1);
        x = liars(0, 1, 2, 3);
        goToView(x, 201);
        due("view 201", x.node(1, 1), 201);
        due("201's leader can't", x.propose(1, 0), NONE);

        x = liars(1);
        for (int i = 1; i < 100; i++) {
            due("block " + i, x.lie(1, 1, 0, 1, 0), i);
        }
        emptyNet(x);
        due("100 blocks", x.look(3), 100);
        due("no more", x.propose(1, 0), NONE);
        due("can't", x.node(1, 11), 0);

        // VIEW 2 without ground: neither HIGH of VIEW 1 nor a PROOF of it.
        x = liars(0, 1, 2, 3);
        x.propose(1, 0);
        deliverAll(x);
        x.propose(2, 0);
        emptyNet(x);
        goToView(x, 6);
        due("PROOF 5", x.node(2, 7), 5);
        x.mode(2, 0);
        due("far ahead by proof", x.propose(2, 1), 3);
        due("VIEW 6", x.block(3, 0), 6);
        due("on HIGH", x.block(3, 1), 1);
    }

    /** A NODE whose HIGH is not of the VIEW ahead, but above it, has no ground to propose. */
    private static void proposeWithoutGround() {
        promise = 4;
        Votes x = liars(0, 1, 2, 3);
        int high = forge(x, 0, 5);
        x.lie(0, 2, high, 1, 0);
        deliverAll(x);
        forge(x, 0, 1);
        due("VIEW of 2", x.node(2, 1), 6);
        due("HIGH of 2", x.node(2, 5), high);

        x = liars(0, 1, 2, 3);
        high = forge(x, 0, 4);
        x.lie(0, 2, high, 9, 0);
        deliverAll(x);
        forge(x, 0, 1);
        due("VIEW of 2", x.node(2, 1), 2);
        due("HIGH of 2 is of VIEW 4", x.node(2, 5), high);
        due("no ground in VIEW 2", x.node(2, 11), 0);
        due("it can't", x.propose(2, 0), NONE);
        goToView(x, 2);
        due("by PROOF it can", x.node(2, 11), 1);

        x = liars(0, 1, 2, 3);
        high = forge(x, 0, 4);
        x.lie(0, 2, high, 9, 0);
        deliverAll(x);
        goToView(x, 2);
        forge(x, 0, 2);
        due("VIEW of 3", x.node(3, 1), 3);
        due("PROOF of 3", x.node(3, 7), 1);
        due("PROOF two less is no ground", x.node(3, 11), 0);
        goToView(x, 3);
        due("one less is", x.propose(3, 0), 3);
        due("on HIGH, though of a greater VIEW", x.block(3, 1), high);
        due("proved", x.block(3, 6), 1);
    }

    private static void timeout() {
        promise = 5;
        Votes x = new Votes();
        due("no node", x.timeout(4), false);
        due("no node -1", x.timeout(-1), false);
        due("first", x.timeout(2), true);
        due("TIMED", x.node(2, 4), 1);
        due("VOTED", x.node(2, 2), 1);
        due("once a view", x.timeout(2), false);
        for (int i = 0; i < 4; i++) {
            int[] m = {2, i, 3, 1, 0};
            for (int w = 0; w < 5; w++) due("message(" + i + ", " + w + ")", x.message(i, w), m[w]);
        }
        x.mode(3, 1);
        due("silent", x.timeout(3), false);
        x.timeout(0);
        x.timeout(1);
        deliverAll(x);
        due("VIEW 2", x.node(0, 1), 2);
        due("PROOF 1", x.node(0, 7), 1);
        due("silent stays", x.node(3, 1), 1);
        due("again in VIEW 2", x.timeout(2), true);

        x = new Votes();
        x.propose(1, 0);
        x.timeout(0);
        x.deliver(0);
        due("no vote behind a timeout", x.node(0, 2), 1);
        due("no mark", x.look(4), 7);
        due("HIGH is sent", x.message(3, 4), 0);

        x = liars(0, 1, 2, 3);
        goToView(x, 200);
        due("at 200", x.timeout(0), true);
        x = liars(0, 1, 2, 3);
        goToView(x, 201);
        due("at 201", x.timeout(0), false);
        due("can't", x.node(0, 12), 0);
    }

    private static void lieMarksAndTimeouts() {
        promise = 6;
        Votes x = liars(1, 3);
        due("honest", x.lie(0, 0, 0, 0, 0), NONE);
        due("mark for 0", x.lie(1, 0, 0, 0, 0), NONE);
        due("mark for none", x.lie(1, 0, 1, 0, 0), NONE);
        x.propose(1, 3);
        emptyNet(x);
        due("mark", x.lie(3, 0, 1, MIN, MAX), 0);
        int[] m = {3, 2, 2, 1, NONE};
        for (int w = 0; w < 5; w++) due("message(0, " + w + ")", x.message(0, w), m[w]);
        due("honest mark", x.lie(0, 0, 1, 0, 0), NONE);
        x.mode(0, 1);
        due("silent mark", x.lie(0, 0, 1, 0, 0), NONE);
        x.drop(0);
        due("timeout 0", x.lie(3, 2, 0, 0, 0), NONE);
        due("timeout 201", x.lie(3, 2, 0, 201, 0), NONE);
        due("timeout of none", x.lie(3, 2, 2, 5, 0), NONE);
        due("timeout of -1", x.lie(3, 2, -1, 5, 0), NONE);
        due("timeout, not certified", x.lie(3, 2, 1, 5, 0), NONE);
        due("nothing sent", x.look(4), 0);
        due("timeout 200", x.lie(3, 2, 0, 200, -5), 0);
        int[] t = {3, 0, 3, 200, 0};
        for (int w = 0; w < 5; w++) due("message(0, " + w + ")", x.message(0, w), t[w]);
        due("timeout 1", x.lie(3, 2, 0, 1, 1000), 0);
        due("sent", x.look(4), 8);
        due("TIMED stays", x.node(3, 4), 0);
        due("another what", x.lie(3, 4, 1, 3, 0), NONE);
        due("another what -1", x.lie(3, -1, 1, 3, 0), NONE);
        due("no node", x.lie(4, 2, 0, 1, 0), NONE);
        due("no node -1", x.lie(-1, 2, 0, 1, 0), NONE);
    }

    private static void lieBlocks() {
        promise = 6;
        Votes x = liars(1, 3);
        due("not leader", x.lie(1, 1, 0, 2, 0), NONE);
        due("view 0", x.lie(1, 1, 0, 0, 0), NONE);
        due("view -3", x.lie(1, 1, 0, -3, 0), NONE);
        due("payload -1", x.lie(1, 1, 0, 1, -1), NONE);
        due("payload 1000", x.lie(1, 1, 0, 1, 1000), NONE);
        due("block", x.lie(1, 1, 0, 5, 999), 1);
        int[] one = {5, 0, 0, 999, 1, 1, 0, 0};
        for (int w = 0; w < one.length; w++) due("block(1, " + w + ")", x.block(1, w), one[w]);
        due("PROPOSED stays", x.node(1, 3), 0);
        due("on one not certified", x.lie(1, 1, 1, 9, 0), NONE);
        due("that as 3", x.lie(1, 3, 1, 9, 7), 2);
        int[] two = {9, 1, 0, 7, 1, 2, 0, 0};
        for (int w = 0; w < two.length; w++) due("block(2, " + w + ")", x.block(2, w), two[w]);
        due("not above", x.lie(1, 3, 1, 5, 7), NONE);
        due("no such", x.lie(1, 3, 3, 9, 7), NONE);
        due("3's payload", x.lie(1, 3, 1, 9, 1000), NONE);
        due("3's leader", x.lie(3, 3, 1, 9, 0), NONE);
        due("view 199", x.lie(3, 1, 0, 199, 0), 3);
        due("view 201", x.lie(1, 1, 0, 201, 0), NONE);
        due("3 at 201", x.lie(1, 3, 0, 201, 0), NONE);
        x.mode(0, 2);
        due("view 200", x.lie(0, 1, 0, 200, 0), 4);
        emptyNet(x);
        for (int b = 5; b < 100; b++) {
            due("block " + b, x.lie(0, b % 2 == 0 ? 1 : 3, 0, 200, 0), b);
        }
        emptyNet(x);
        due("101st", x.lie(0, 1, 0, 200, 0), NONE);
        due("101st as 3", x.lie(0, 3, 0, 200, 0), NONE);
        due("a mark still", x.lie(0, 0, 99, 0, 0), 0);
        due("to 201's leader", x.message(0, 1), 1);
    }

    private static void deliver() {
        promise = 7;
        Votes x = new Votes();
        due("none", x.deliver(0), NONE);
        x.propose(1, 0);
        due("-1", x.deliver(-1), NONE);
        due("4", x.deliver(4), NONE);
        due("MAX", x.deliver(MAX), NONE);
        due("the last", x.deliver(3), 1);
        due("gone", x.look(4), 4);
        due("its mark is last", x.message(3, 2), 2);
        due("from", x.message(3, 0), 3);
        due("to", x.message(3, 1), 2);
        due("counted", x.look(11), 1);
        due("a mark", x.deliver(3), 2);
        due("noted", x.markers(2, 1), 8);
        x.timeout(0);
        due("a timeout", x.deliver(5), 3);
        due("noted at 2", x.timeouts(2, 1), 1);
        due("rest", x.look(4), 6);
    }

    /** What a BLOCK does: VIEWS and votes, step (c) and (d). */
    private static void deliverBlocks() {
        promise = 7;
        Votes x = liars(0, 1, 2, 3);
        // Neither certificate of the VIEW ahead nor proof: the NODE stays where it is and does not vote.
        x.lie(3, 1, 0, 3, 0);
        x.deliver(0);
        due("no jump", x.node(0, 1), 1);
        due("no vote", x.node(0, 2), 0);
        due("no event", x.look(15), 0);
        due("but it was proposed", x.since(0, 4), 1);
        // With a PROOF of its own of the VIEW ahead it jumps.
        x = liars(0, 1, 2, 3);
        goToView(x, 3);
        x.lie(3, 1, 0, 3, 0);
        x.deliver(0);
        due("in the view already: voted", x.node(0, 2), 3);
        // A proof of a greater VIEW than needed: VIEW 6, block of VIEW 3 is behind.
        x = liars(0, 1, 2, 3);
        goToView(x, 6);
        x.lie(3, 1, 0, 3, 0);
        x.deliver(0);
        due("no way back", x.node(0, 1), 6);
        due("no vote behind", x.node(0, 2), 0);
        // A certificate of the VIEW ahead takes along one who lagged.
        x = new Votes();
        x.propose(1, 0);
        x.drop(0);
        deliverAll(x);
        due("0 lags", x.node(0, 1), 1);
        x.propose(2, 0);
        x.deliver(0);
        due("0 is on", x.node(0, 1), 2);
        due("HIGH", x.node(0, 5), 1);
        due("voted", x.node(0, 2), 2);
        due("mark to 3", x.message(3, 1), 3);
        // PROVED takes along one who lagged, too.
        x = new Votes();
        for (int i = 0; i < 3; i++) x.timeout(i);
        x.lose(3);
        deliverAll(x);
        due("3 lags", x.node(3, 1), 1);
        x.propose(2, 0);
        x.deliver(3);
        due("3 is on", x.node(3, 1), 2);
        due("3 voted", x.node(3, 2), 2);
        due("its PROOF stays", x.node(3, 7), 0);
        // PARENT and JUSTIFY unlike: no vote.
        x = liars(1);
        x.propose(1, 0);
        emptyNet(x);
        x.mode(2, 2);
        due("as 3", x.lie(2, 3, 1, 2, 0), 2);
        x.timeout(0);
        x.timeout(1);
        x.timeout(3);
        x.turn(4);
        for (int i = 0; i < 12; i++) x.deliver(0);
        due("VIEW 2", x.node(0, 1), 2);
        for (int i = 0; i < 4; i++) x.deliver(0);
        due("no mark", x.look(4), 0);
        due("no vote for it", x.node(2, 2), 0);
    }

    /** LOCK and SAFE: a BLOCK that goes around the LOCK is not voted for, and that is an EVENT. */
    private static void deliverUnsafe() {
        promise = 7;
        Votes x = liars(0, 1, 2, 3);
        int a = forge(x, 0, 1);
        int b = forge(x, a, 2);
        int c = forge(x, b, 3);
        due("LOCK of 0", x.node(0, 6), b);
        due("HIGH of 0", x.node(0, 5), c);
        due("VIEW of 0", x.node(0, 1), 4);
        due("committed by 0", x.node(0, 9), a);
        int events = x.look(15);
        due("around the lock", x.lie(0, 1, 0, 4, 0), 4);
        due("would not", x.would(0, 4), 0);
        x.deliver(0);
        due("no vote", x.node(0, 2), 0);
        due("an event", x.look(15), events + 1);
        due("what", x.event(events, 0), 1);
        due("who", x.event(events, 1), 0);
        due("which", x.event(events, 2), 4);
        // JUSTIFY of the LOCK's own VIEW is not above; on the LOCK itself it EXTENDS.
        emptyNet(x);
        due("on the lock", x.lie(0, 1, b, 4, 0), 5);
        due("would", x.would(0, 5), 1);
        x.deliver(0);
        due("vote", x.node(0, 2), 4);
    }

    private static void learnAndCommit() {
        promise = 7;
        Votes x = liars(0, 1, 2, 3);
        int a = forge(x, 0, 1);
        int b = forge(x, a, 2);
        int d = forge(x, b, 4);
        int e = forge(x, d, 5);
        due("views with a gap commit nothing", x.node(2, 9), 0);
        int f = forge(x, e, 6);
        due("4, 5, 6 commit 4, and what lies between", x.node(3, 8), 4);
        due("0", x.log(3, 0), 0);
        due("1", x.log(3, 1), a);
        due("2", x.log(3, 2), b);
        due("4", x.log(3, 3), d);
        due("LOCK", x.node(3, 6), e);
        due("HIGH", x.node(3, 5), f);
        due("VIEW", x.node(3, 1), 7);
        int last = x.look(15) - 1;
        due("event", x.event(last, 0), 3);
        due("of 3", x.event(last, 1), 3);
        due("each block", x.event(last, 2), d);
        due("each block", x.event(last - 1, 2), b);
        due("each block", x.event(last - 2, 2), a);
        due("behind the quorum", x.event(last - 3, 0), 2);

        // A fork: three more in a row around the LOG.
        int g = forge(x, 0, 9);
        int h = forge(x, g, 10);
        int i = forge(x, h, 11);
        due("0 committed g", x.node(0, 9), g);
        due("unlike logs", x.look(7), 1);
        due("no fork yet", x.look(8), 0);
        due("3 asks 0", x.ask(3, 0), true);
        due("fork of 3", x.node(3, 10), 1);
        due("forks", x.look(8), 1);
        due("log of 3 stays", x.node(3, 9), d);
        last = x.look(15) - 1;
        due("event 4", x.event(last, 0), 4);
        due("by 3", x.event(last, 1), 3);
        due("e", x.event(last, 2), g);
        due("HIGH of 3", x.node(3, 5), i);
        x.ask(3, 0);
        due("once more", x.node(3, 10), 2);

        // BLOCK 0 is not committed anew by 0, 1, 2 in a row.
        x = liars(0, 1, 2, 3);
        a = forge(x, 0, 1);
        b = forge(x, a, 2);
        due("no event 3", x.event(x.look(15) - 1, 0), 2);
        due("log of 0 alone", x.node(3, 8), 1);
    }

    private static void deliverMarks() {
        promise = 7;
        Votes x = liars(0, 1, 2, 3);
        x.lie(1, 1, 0, 1, 0);
        emptyNet(x);
        for (int i = 0; i < 3; i++) {
            due("not yet", x.block(1, 7), 0);
            x.lie(i, 0, 1, 0, 0);
            x.deliver(0);
            due("marks", x.marks(2, 1), i + 1);
        }
        due("certified", x.block(1, 7), 1);
        due("HIGH of 2", x.node(2, 5), 1);
        due("VIEW of 2", x.node(2, 1), 2);
        due("HIGH of 1", x.node(1, 5), 0);
        due("event", x.event(0, 0), 2);
        due("event", x.event(0, 1), 2);
        due("event", x.event(0, 2), 1);
        x.lie(3, 0, 1, 0, 0);
        x.deliver(0);
        due("fourth mark", x.marks(2, 1), 4);
        due("no event more", x.look(15), 1);
        // The VIEW of one who is further on stays.
        x = liars(0, 1, 2, 3);
        x.lie(1, 1, 0, 1, 0);
        emptyNet(x);
        goToView(x, 9);
        for (int i = 0; i < 3; i++) x.lie(i, 0, 1, 0, 0);
        deliverAll(x);
        due("VIEW stays", x.node(2, 1), 9);
        due("HIGH", x.node(2, 5), 1);
        // The last VIEW.
        x = liars(0, 1, 2, 3);
        forge(x, 0, 200);
        due("VIEW 201", x.node(1, 1), 201);
    }

    private static void deliverTimeouts() {
        promise = 7;
        Votes x = liars(0, 1, 2, 3);
        int a = forge(x, 0, 1);
        int b = forge(x, a, 2);
        due("HIGH of 0", x.node(0, 5), 0);
        x.lie(1, 2, b, 7, 0);
        x.deliver(0);
        due("HIGH is learnt", x.node(0, 5), b);
        due("LOCK is learnt", x.node(0, 6), a);
        due("VIEW stays", x.node(0, 1), 1);
        emptyNet(x);
        x.lie(1, 2, 0, 7, 0);
        x.deliver(0);
        due("noted once", x.timeouts(0, 7), 1);
        emptyNet(x);
        int c = forge(x, b, 3);
        x.lie(1, 2, c, 7, 0);
        due("HIGH of 1 is", x.node(1, 5), 0);
        x.deliver(1);
        due("learnt by 1", x.node(1, 5), c);
        due("1 committed", x.node(1, 9), a);
        emptyNet(x);
        x.lie(1, 2, b, 7, 0);
        x.deliver(0);
        due("noted already, LEARNT all the same: HIGH stays, lower", x.node(0, 5), c);
        emptyNet(x);
        x.lie(2, 2, 0, 7, 0);
        x.lie(3, 2, 0, 7, 0);
        int events = x.look(15);
        deliverAll(x);
        due("PROOF of 0", x.node(0, 7), 7);
        due("VIEW of 0", x.node(0, 1), 8);
        due("event 5", x.event(events, 0), 5);
        due("its VIEW", x.event(events, 2), 7);
        // A lesser VIEW's quorum later on: PROOF, VIEW stay, and there is no event.
        events = x.look(15);
        for (int i = 0; i < 4; i++) x.lie(i, 2, 0, 6, 0);
        deliverAll(x);
        due("PROOF stays", x.node(0, 7), 7);
        due("VIEW stays", x.node(0, 1), 8);
        due("events of 2 and 3 alone, who had no greater one", x.look(15), events + 2);
        due("2", x.event(events, 1), 2);
        due("3", x.event(events + 1, 1), 3);
        due("timeouts", x.timeouts(0, 6), 4);
    }

    private static void drop() {
        promise = 8;
        Votes x = new Votes();
        due("none", x.drop(0), NONE);
        x.propose(1, 0);
        x.timeout(3);
        due("-1", x.drop(-1), NONE);
        due("8", x.drop(8), NONE);
        due("a block", x.drop(1), 1);
        due("a timeout", x.drop(6), 3);
        due("rest", x.look(4), 6);
        due("row", x.message(0, 1), 0);
        due("row", x.message(1, 1), 2);
        due("row", x.message(5, 1), 2);
        due("not delivered", x.look(11), 0);
        due("not lost", x.look(5), 0);
        x.deliver(0);
        due("a mark", x.drop(5), 2);
    }

    private static void lose() {
        promise = 9;
        Votes x = new Votes();
        due("none", x.lose(0), 0);
        due("4", x.lose(4), NONE);
        due("-1", x.lose(-1), NONE);
        x.propose(1, 0);
        x.timeout(0);
        x.mode(2, 1);
        due("two", x.lose(2), 2);
        due("rest", x.look(4), 6);
        for (int i = 0; i < 6; i++) due("none to 2", x.message(i, 1) == 2, false);
        due("in order", x.message(2, 1), 3);
        due("in order", x.message(2, 2), 1);
        due("in order", x.message(3, 2), 3);
        due("again", x.lose(2), 0);
        due("not LOST", x.look(5), 0);
        due("not delivered", x.look(11), 0);
    }

    private static void leaders() {
        promise = 10;
        Votes x = new Votes();
        due("3", x.leaders(3), NONE);
        due("-1", x.leaders(-1), NONE);
        due("1", x.leaders(1), 0);
        due("2", x.leaders(2), 1);
        due("0", x.leaders(0), 2);
        x.timeout(0);
        due("not with messages", x.leaders(1), NONE);
        emptyNet(x);
        due("then", x.leaders(2), 0);
        // 2: v times v: VIEW 1 node 1, VIEW 2 node 0 (4 modulo 4).
        due("VIEW 1", x.propose(1, 0), 1);
        emptyNet(x);
        due("not with a block", x.leaders(0), NONE);
        due("RULE", x.look(16), 2);
        x.mode(3, 2);
        x.lie(3, 0, 1, 0, 0);
        due("VIEW 2's leader by 2", x.message(0, 1), 0);

        x = new Votes();
        x.nodes(5);
        x.leaders(1);
        int[] of = {0, 1, 1, 2, 2, 3, 3, 4, 4, 0, 0};
        for (int i = 0; i < 5; i++) x.mode(i, 2);
        for (int v = 1; v <= of.length; v++) {
            for (int i = 0; i < 5; i++) due("by 1 VIEW " + v + " node " + i, x.lie(i, 1, 0, v, 0) != NONE, i == of[v - 1]);
            emptyNet(x);
        }
    }

    private static void cut() {
        promise = 11;
        Votes x = new Votes();
        due("alike", x.cut(2, 2, true), false);
        due("none such", x.cut(0, 4, true), false);
        due("none such", x.cut(-1, 0, true), false);
        due("cut", x.cut(1, 3, true), true);
        due("again", x.cut(3, 1, true), true);
        due("one couple", x.look(20), 1);
        x.propose(1, 0);
        due("three are sent", x.look(4), 3);
        due("one is gone", x.look(19), 1);
        due("not LOST", x.look(5), 0);
        due("0", x.message(0, 1), 0);
        due("1", x.message(1, 1), 1);
        due("2", x.message(2, 1), 2);
        x.timeout(3);
        due("the other way, too", x.look(4), 6);
        due("gone", x.look(19), 2);
        // Lies, too; what was sent before the cut comes.
        x.mode(0, 2);
        x.cut(0, 2, true);
        due("a lie is gone", x.lie(0, 0, 1, 0, 0), 0);
        due("gone", x.look(19), 3);
        due("before the cut", x.deliver(0), 1);
        due("voted", x.node(0, 2), 1);
        due("its mark is gone", x.look(19), 4);
        due("asks all the same", x.ask(0, 2), true);
        due("mended", x.cut(2, 0, false), true);
        due("one couple", x.look(20), 1);
        due("mended again", x.cut(0, 2, false), true);
        x.lie(0, 0, 1, 0, 0);
        due("arrives", x.message(5, 2), 2);
        // CUT goes ahead of LOST.
        x = liars(0, 1, 2, 3);
        x.cut(0, 1, true);
        for (int i = 0; i < 50; i++) x.lie(2, 2, 0, 1, 0);
        x.lie(0, 2, 0, 1, 0);
        due("lost", x.look(5), 3);
        due("cut", x.look(19), 1);
    }

    private static void reach() {
        promise = 12;
        Votes x = new Votes();
        due("all", x.reach(0), 15);
        x.nodes(7);
        due("all of 7", x.reach(6), 127);
        due("none such", x.reach(7), NONE);
        due("none such", x.reach(-1), NONE);
        x.cut(6, 0, true);
        x.cut(6, 3, true);
        due("6", x.reach(6), 127 - 1 - 8);
        due("0", x.reach(0), 127 - 64);
        due("3", x.reach(3), 127 - 64);
        for (int i = 1; i < 6; i++) x.cut(6, i, true);
        due("itself", x.reach(6), 64);
        x.mode(0, 1);
        due("a silent one", x.reach(1), 127 - 64);
    }

    private static void since() {
        promise = 13;
        Votes x = new Votes();
        int[] fresh = {1, 0, 1, 1, 0, 0, 0};
        for (int w = 0; w < 7; w++) due("fresh " + w, x.since(3, w), fresh[w]);
        due("7", x.since(0, 7), NO_NUMBER);
        due("-1", x.since(0, -1), NO_NUMBER);
        due("node 4", x.since(4, 0), NO_NUMBER);
        due("node -1", x.since(-1, 0), NO_NUMBER);
        x.calm(4);
        // NODE 1 leads VIEW 5: it has BLOCK 4 as HIGH, 3 as LOCK, 2 committed.
        int[] one = {3, 2, 1, 1, 4, 0, 1};
        for (int w = 0; w < 7; w++) due("node 1, " + w, x.since(1, w), one[w]);
        x.timeout(0);
        x.timeout(2);
        deliverAll(x);
        due("views of timeouts", x.since(1, 5), 1);
        x.mode(0, 2);
        x.lie(0, 2, 0, 100, 0);
        deliverAll(x);
        due("views of timeouts", x.since(1, 5), 2);

        x = liars(0, 1, 2, 3);
        int a = forge(x, 0, 1);
        int b = forge(x, a, 2);
        int c = forge(x, b, 3);
        int d = forge(x, 0, 8);
        // NODE 0: LOCK b by c, HIGH c; NODE 1: HIGH d. NODE 1 asks 0 and 0 asks 1.
        x.ask(0, 1);
        due("HIGH is d", x.node(0, 5), d);
        due("HIGH does not extend LOCK", x.since(0, 2), 0);
        due("LOCK extends the last", x.since(0, 3), 1);
        due("VIEW", x.since(0, 0), 9 - 1);
        due("HEIGHT", x.since(0, 1), 0);
        int e = forge(x, d, 9);
        forge(x, e, 10);
        x.ask(0, 3);
        due("LOCK is e", x.node(0, 6), e);
        due("LOCK does not extend the last", x.since(0, 3), 0);
    }

    private static void state() {
        promise = 14;
        Votes x = new Votes();
        due("at first", x.state(MIN), 0);
        due("look", x.look(14), MIN);
        due("then", x.state(MAX), MIN);
        due("then", x.state(5), MAX);
        x.storm(40, 5);
        due("no draw without messages", x.look(14), 5);
    }

    private static void ask() {
        promise = 15;
        Votes x = new Votes();
        due("alike", x.ask(1, 1), false);
        due("none", x.ask(0, 4), false);
        due("none", x.ask(4, 0), false);
        due("none", x.ask(-1, 0), false);
        due("one", x.ask(0, 1), true);
        due("VIEW", x.node(0, 1), 1);
        x.mode(1, 1);
        due("silent", x.ask(0, 1), false);
        due("silent", x.ask(1, 0), false);
        x.mode(1, 2);
        due("a liar", x.ask(1, 0), true);
        x.mode(1, 0);
        // HIGH, LOCK, LOG and VIEW by it.
        x.calm(3);
        due("HIGH of 1", x.node(1, 5), 2);
        int events = x.look(15);
        due("1 asks 0", x.ask(1, 0), true);
        due("HIGH of 1", x.node(1, 5), 3);
        due("LOCK of 1", x.node(1, 6), 2);
        due("last of 1", x.node(1, 9), 1);
        due("VIEW of 1", x.node(1, 1), 4);
        due("event 3", x.event(events, 0), 3);
        due("delivered stays", x.look(11), 24);
        // PROOF by it, without an EVENT; the one that was asked stays.
        x = new Votes();
        for (int i = 0; i < 3; i++) x.timeout(i);
        x.lose(3);
        deliverAll(x);
        events = x.look(15);
        due("3 asks 0", x.ask(3, 0), true);
        due("PROOF", x.node(3, 7), 1);
        due("VIEW", x.node(3, 1), 2);
        due("no event", x.look(15), events);
        due("no timeouts", x.timeouts(3, 1), 0);
        due("the other way", x.ask(0, 3), true);
        due("stays", x.node(0, 1), 2);
        // VIEW is not taken over by itself.
        x = liars(0, 1, 2, 3);
        forge(x, 0, 5);
        due("VIEW of 2", x.node(2, 1), 6);
        x.ask(1, 2);
        due("by HIGH", x.node(1, 1), 6);
        goToView(x, 9);
        x.ask(1, 2);
        due("by PROOF", x.node(1, 1), 9);
    }

    private static int drawState(int s) {
        return 1664525 * s + 1013904223;
    }

    private static void storm() {
        promise = 16;
        Votes x = new Votes();
        due("0", x.storm(0, 0), NONE);
        due("41", x.storm(41, 0), NONE);
        due("d -1", x.storm(1, -1), NONE);
        due("d 10", x.storm(1, 10), NONE);
        due("none", x.storm(40, 9), 0);
        for (int seed = -3; seed < 40; seed++) {
            x = new Votes();
            x.state(seed * 1000003);
            x.timeout(0);
            x.timeout(1);
            int s = drawState(seed * 1000003);
            int k = (int) (((s & 0xffffffffL) >> 8) % 8);
            s = drawState(s);
            boolean dropped = (int) (((s & 0xffffffffL) >> 8) % 10) < 4;
            due("storm(1, 4)", x.storm(1, 4), dropped ? 0 : 1);
            due("state", x.look(14), s);
            due("seven left", x.look(4), 7);
            due("delivered", x.look(11), dropped ? 0 : 1);
            due("that one is out, its follower in its place", x.message(k, 1), k == 7 ? -2 : (k + 1) % 4);
            due("noted", x.timeouts(k % 4, 1), dropped ? 0 : 1);
        }
        x = new Votes();
        x.propose(1, 0);
        due("all and their marks", x.storm(40, 0), 8);
        due("none left", x.look(4), 0);
        int s = 0;
        for (int i = 0; i < 16; i++) s = drawState(s);
        due("two draws each, with d 0, too", x.look(14), s);
        x.propose(2, 0);
        due("two of them", x.storm(2, 0), 2);
        x.mode(0, 1);
        x.mode(1, 1);
        x.mode(2, 1);
        x.mode(3, 1);
        due("to silent ones they count as delivered", x.storm(2, 0), 2);
    }

    private static void turn() {
        promise = 17;
        Votes x = new Votes();
        due("0 of 0", x.turn(0), true);
        due("1 of 0", x.turn(1), false);
        due("-1", x.turn(-1), false);
        x.propose(1, 0);
        x.timeout(0);
        due("9 of 8", x.turn(9), false);
        due("3", x.turn(3), true);
        int[] to = {3, 0, 1, 2, 3, 2, 1, 0};
        int[] kind = {1, 3, 3, 3, 3, 1, 1, 1};
        for (int i = 0; i < 8; i++) {
            due("to " + i, x.message(i, 1), to[i]);
            due("kind " + i, x.message(i, 2), kind[i]);
        }
        due("8", x.turn(8), true);
        for (int i = 0; i < 8; i++) due("turned about " + i, x.message(i, 1), to[7 - i]);
        due("0", x.turn(0), true);
        for (int i = 0; i < 8; i++) due("as it was " + i, x.message(i, 1), to[7 - i]);
        due("1", x.turn(1), true);
        due("the first is last", x.message(7, 1), to[7]);
        due("the second is first", x.message(0, 1), to[6]);
        // Over the end of the row's room, too: it is a ring inside.
        x = liars(0, 1, 2, 3);
        for (int i = 0; i < 45; i++) x.lie(0, 2, 0, 1 + i, 0);
        for (int i = 0; i < 150; i++) x.drop(0);
        for (int i = 0; i < 42; i++) x.lie(0, 2, 0, 101 + i, 0);
        due("198", x.look(4), 198);
        due("turn 29", x.turn(29), true);
        due("first", x.message(0, 3), 45);
        due("second", x.message(3, 3), 101);
        due("last", x.message(197, 3), 38);
        due("30 from the end", x.message(169, 3), 45);
    }

    private static void calm() {
        promise = 18;
        Votes x = new Votes();
        due("0", x.calm(0), NONE);
        due("21", x.calm(21), NONE);
        due("-1", x.calm(-1), NONE);
        due("nothing", x.look(3), 1);
        due("1", x.calm(1), 0);
        due("round 0's payload", x.block(1, 3), 0);
        due("2", x.calm(2), 1);
        due("payload from 0 again", x.block(2, 3), 0);
        due("payload 1", x.block(3, 3), 1);
        due("1", x.calm(1), 4);
        due("1", x.calm(1), 4);
        due("20", x.calm(20), 80);
        due("blocks", x.look(3), 26);
        due("none left", x.look(4), 0);
        // Delivered first, in the first round.
        x = new Votes();
        x.propose(1, 77);
        x.calm(1);
        due("two blocks", x.look(3), 3);
        due("VIEW 2", x.block(2, 0), 2);
        // Nobody can propose: all time out.
        x = new Votes();
        x.mode(1, 1);
        due("timeouts", x.calm(1), 0);
        due("VIEW", x.node(0, 1), 2);
        due("TIMED", x.node(0, 4), 1);
        due("the silent one doesn't", x.node(1, 4), 0);
        due("delivered", x.look(11), 12);
        x.calm(1);
        due("then the next leader", x.block(1, 4), 2);
        // A liar proposes as the others do.
        x = liars(1);
        x.calm(1);
        due("by 1", x.block(1, 4), 1);
        // 100 BLOCKS: timeouts.
        x = new Votes();
        for (int i = 0; i < 5; i++) x.calm(20);
        due("100 blocks", x.look(3), 100);
        due("timed", x.node(0, 4) > 0, true);
        due("longest log", x.audit(3), 98);
        int before = x.look(12);
        x.calm(20);
        due("the views go on", x.look(12), before + 20);
        for (int i = 0; i < 6; i++) x.calm(20);
        due("up to 201", x.look(12), 201);
        due("and no further", x.calm(20), 0);
        due("nothing is sent", x.look(4), 0);
    }

    private static void feed() {
        promise = 19;
        Votes x = new Votes();
        for (int i = 1; i <= 20; i++) due("feed " + i, x.feed(i, -i, MIN, MAX, 0), 20 * i);
        due("more than 400", x.feed(1, 2, 3, 4, 5), NONE);
        due("has 400", x.end(400), true);
        x.end(381);
        due("401", x.feed(1, 2, 3, 4, 5), NONE);
        due("381 still", x.end(382), false);
        x.end(380);
        due("400", x.feed(1, 2, 3, 4, 5), 400);
        // The highest byte first: "calm 1;" and blanks.
        x = new Votes();
        x.feed(0x63616c6d, 0x20313b20, 0x20202020, 0x0a0a0a0a, 0x20200a20);
        due("the text", x.plan(), 1);
        // Bytes from 128 on are no letters.
        x.feed(0xffffffff, 0, 0, 0, 0);
        due("no text", x.plan(), NONE);
        due("fault", x.fault(0), 1);
        due("place", x.fault(1), 0);
    }

    private static void end() {
        promise = 20;
        Votes x = new Votes();
        due("0 of 0", x.end(0), true);
        due("1 of 0", x.end(1), false);
        due("-1", x.end(-1), false);
        x.feed(0x63616c6d, 0x20313b20, 0x3b3b3b3b, 0, 0);
        due("21", x.end(21), false);
        due("20", x.end(20), true);
        due("MIN", x.end(MIN), false);
        due("8", x.end(8), true);
        due("9", x.end(9), false);
        due("plan", x.plan(), 1);
    }

    private static void plan() {
        promise = 21;
        Votes x = new Votes();
        due("empty", x.plan(), 0);
        due("blanks", plan(x, " \n \n"), 0);
        due("one", plan(x, "calm 1;"), 1);
        due("the tape is empty", x.end(1), false);
        due("empty is a plan, too", x.plan(), 0);
        due("none", x.look(9), 0);
        due("all", plan(x, "propose 6 999;deliver 50;drop 1;lose 0;turn 0;timeout 0006;lie 0 mark 99;lie 1 block 0 200;"
            + "lie 2 timeout 1;calm 20;"), 10);
        due("no blanks", plan(x, "propose1 2;lie0mark1;lie\n3\nblock\n4 5 ;\n"), 3);
        due("a fault", plan(x, "calm 0;"), NONE);
        due("the tape is empty", x.end(1), false);
        due("the plan stays", x.look(9), 3);
        due("24", plan(x, repeat("drop 1;", 24)), 24);
        due("24 and blanks", plan(x, repeat("drop 1;", 24) + "  \n"), 24);
        due("run", x.run(5), 0);
        due("ran", x.look(10), 5);
        due("a fault", plan(x, "x"), NONE);
        due("ran stays", x.look(10), 5);
        due("a new one", plan(x, "drop 2;"), 1);
        due("at its beginning", x.look(10), 0);
        due("400 bytes", plan(x, "calm 1;" + repeat(" ", 392) + "c"), NONE);
        due("place", x.fault(1), 399);
    }

    private static void fault() {
        promise = 22;
        Votes x = new Votes();
        plan(x, "calm 21;");
        due("fault", x.fault(0), 2);
        due("place", x.fault(1), 5);
        due("2", x.fault(2), NONE);
        due("-1", x.fault(-1), NONE);
        x.plan();
        due("none", x.fault(0), 0);
        due("no place", x.fault(1), NONE);
        // 1: what can't stand there.
        faulty("calm", 1, 4);
        faulty("calm  \n", 1, 7);
        faulty("calm 1", 1, 6);
        faulty("calm 1 1;", 1, 7);
        faulty("calm;", 1, 4);
        faulty("calm calm;", 1, 5);
        faulty(";", 1, 0);
        faulty("calm 1;;", 1, 7);
        faulty(" 1;", 1, 1);
        faulty("Calm 1;", 1, 0);
        faulty("calmx 1;", 1, 0);
        faulty("cal 1;", 1, 0);
        for (char c : new char[] {'a', 'z', 'A', 'Z'}) faulty("calm" + c + "1;", 1, 0);
        for (char c : new char[] {'@', '[', '`', '{', '/', ':'}) {
            faulty("calm" + c + "1;", 1, 4);
            faulty("calm 1" + c + ";", 1, 6);
        }
        faulty("calm 9;calm 0", 2, 12);
        faulty("mark 1;", 1, 0);
        faulty("block 1 1;", 1, 0);
        faulty("calm 00001;", 1, 5);
        faulty("calm 12345;", 1, 5);
        faulty("calm -1;", 1, 5);
        faulty("calm\t1;", 1, 4);
        faulty("calm 1;\r", 1, 7);
        faulty("calm 1,", 1, 6);
        faulty("propose 1;", 1, 9);
        faulty("propose 1 2 3;", 1, 12);
        faulty("lie 0;", 1, 5);
        faulty("lie mark 0;", 1, 4);
        faulty("lie 0 1;", 1, 6);
        faulty("lie 0 calm 1;", 1, 6);
        faulty("lie 0 mark 1 1;", 1, 13);
        faulty("lie 0 block 1;", 1, 13);
        faulty("lie 0 block 1 1 1;", 1, 16);
        faulty("lie 0 timeout 1 1;", 1, 16);
        faulty("timeout 0 mark;", 1, 10);
        faulty("calm 1;x", 1, 7);
        faulty("calm" + (char) 0 + "1;", 1, 4);
        faulty("calm" + (char) 160 + "1;", 1, 4);
        faulty("calm 1" + (char) 226, 1, 6);
        // 2: beyond the bounds, each of them.
        faulty("propose 7 0;", 2, 8);
        faulty("propose 0 1000;", 2, 10);
        faulty("deliver 0;", 2, 8);
        faulty("deliver 51;", 2, 8);
        faulty("drop 0;", 2, 5);
        faulty("drop 51;", 2, 5);
        faulty("lose 7;", 2, 5);
        faulty("turn 51;", 2, 5);
        faulty("timeout 7;", 2, 8);
        faulty("lie 7 mark 1;", 2, 4);
        faulty("lie 0 mark 100;", 2, 11);
        faulty("lie 0 block 100 1;", 2, 12);
        faulty("lie 0 block 1 0;", 2, 14);
        faulty("lie 0 block 1 201;", 2, 14);
        faulty("lie 0 timeout 0;", 2, 14);
        faulty("lie 0 timeout 201;", 2, 14);
        faulty("calm 0;", 2, 5);
        faulty("calm 21;", 2, 5);
        faulty("calm 9999;", 2, 5);
        // The first by its place.
        faulty("calm 0 0;", 2, 5);
        faulty("calm 0;x", 2, 5);
        faulty("calm x;calm 0;", 1, 5);
        faulty("lie 7 x", 2, 4);
        // 3: the 25th line, unless its first token can't stand there.
        faulty(repeat("calm 1;", 24) + "calm 1;", 3, 168);
        faulty(repeat("calm 1;", 24) + " lie", 3, 169);
        faulty(repeat("calm 1;", 24) + " calm 0;", 3, 169);
        faulty(repeat("calm 1;", 24) + " x", 1, 169);
        faulty(repeat("calm 1;", 24) + ";", 1, 168);
        faulty(repeat("calm 1;", 24) + "mark", 1, 168);
        faulty(repeat("calm 1;", 23) + "calm 0;calm 1;", 2, 166);
    }

    private static void run() {
        promise = 23;
        Votes x = new Votes();
        due("0", x.run(0), NONE);
        due("25", x.run(25), NONE);
        due("-1", x.run(-1), NONE);
        due("no plan", x.run(24), 0);
        plan(x, "deliver 1;drop 1;lose 0;turn 0;turn 1;propose 0 1;propose 1 7;propose 6 1;lose 6;timeout 6;");
        due("deliver of none", x.run(1), 0);
        due("drop of none", x.run(1), 0);
        due("lose of none", x.run(1), 1);
        due("turn 0", x.run(1), 1);
        due("turn 1", x.run(1), 0);
        due("not leader", x.run(1), 0);
        due("leader", x.run(1), 1);
        due("payload", x.block(1, 3), 7);
        due("no nodes", x.run(2), 0);
        due("ran", x.look(10), 9);
        due("the last", x.run(24), 0);
        due("all ran", x.look(10), 10);
        due("at its end", x.run(24), 0);

        // So many of the first ones, one behind the other: the marks that come meanwhile, too.
        x = new Votes();
        plan(x, "propose 1 5;deliver 6;deliver 50;");
        due("two lines", x.run(2), 2);
        due("six delivered", x.look(11), 6);
        due("two left", x.look(4), 2);
        due("third", x.run(5), 1);
        due("eight delivered", x.look(11), 8);
        x = new Votes();
        plan(x, "propose 1 5;drop 3;drop 3;drop 1;");
        due("drops", x.run(4), 3);
        due("none left", x.look(4), 0);
        due("none delivered", x.look(11), 0);
        x = new Votes();
        plan(x, "propose 1 5;turn 2;lose 3;timeout 0;timeout 0;calm 4;");
        due("turn", x.run(2), 2);
        due("turned", x.message(0, 1), 2);
        due("lose", x.run(1), 1);
        due("lost", x.look(4), 3);
        due("timeout", x.run(2), 1);
        due("calm", x.run(1), 1);
        due("blocks", x.look(3) > 2, true);

        x = liars(1, 2);
        plan(x, "lie 1 block 0 5;lie 1 block 0 6;lie 2 mark 1;lie 2 mark 0;lie 2 mark 2;lie 0 mark 1;lie 2 timeout 200;lie 3 timeout 1;");
        due("lies", x.run(24), 3);
        due("VIEW 5", x.block(1, 0), 5);
        due("PAYLOAD 0", x.block(1, 3), 0);
        due("JUSTIFY", x.block(1, 2), 0);
        due("the mark", x.message(4, 3), 1);
        due("the timeout", x.message(5, 3), 200);
        due("its HIGH", x.message(5, 4), 0);
        due("row", x.look(4), 9);
        due("lie on one not certified", plan(x, "lie 1 block 1 9;"), 1);
        due("refused", x.run(1), 0);
    }

    private static void node() {
        promise = 24;
        Votes x = new Votes();
        x.calm(4);
        int[] one = {0, 5, 4, 1, 0, 4, 3, 0, 3, 2, 0, 1, 1};
        for (int w = 0; w < one.length; w++) due("node(1, " + w + ")", x.node(1, w), one[w]);
        due("13", x.node(1, 13), NONE);
        due("-1", x.node(1, -1), NONE);
        due("node 4", x.node(4, 1), NONE);
        due("node -1", x.node(-1, 1), NONE);
        due("not leader", x.node(2, 11), 0);
        x.propose(1, 0);
        due("has proposed", x.node(1, 11), 0);
        due("PROPOSED", x.node(1, 3), 5);
        x.timeout(1);
        due("has timed out", x.node(1, 12), 0);
        due("TIMED", x.node(1, 4), 5);
        due("VOTED", x.node(1, 2), 5);
        x.mode(3, 1);
        due("silent", x.node(3, 12), 0);
        due("MODE", x.node(3, 0), 1);
    }

    private static void log() {
        promise = 25;
        Votes x = new Votes();
        due("first", x.log(0, 0), 0);
        due("second", x.log(0, 1), NONE);
        due("-1", x.log(0, -1), NONE);
        due("node 4", x.log(4, 0), NONE);
        due("node -1", x.log(-1, 0), NONE);
        x.calm(5);
        for (int i = 0; i <= 3; i++) due("log(2, " + i + ")", x.log(2, i), i);
        due("log(2, 4)", x.log(2, 4), NONE);
        due("MAX", x.log(2, MAX), NONE);
        for (int i = 0; i < 5; i++) x.calm(20);
        due("the 98th", x.log(3, 97), 97);
        due("the 99th", x.log(3, 98), NONE);
    }

    private static void block() {
        promise = 26;
        Votes x = new Votes();
        due("none", x.block(1, 0), NONE);
        due("-1", x.block(-1, 0), NONE);
        due("what 8", x.block(0, 8), NONE);
        due("what -1", x.block(0, -1), NONE);
        x.propose(1, 321);
        deliverAll(x);
        int[] one = {1, 0, 0, 321, 1, 1, 1, 1};
        for (int w = 0; w < one.length; w++) due("block(1, " + w + ")", x.block(1, w), one[w]);
        due("MAX", x.block(MAX, 0), NONE);
        due("99", x.block(99, 0), NONE);
    }

    private static void marksAndMarkers() {
        promise = 27;
        Votes x = new Votes();
        due("for 0", x.marks(0, 0), 0);
        due("for none", x.marks(0, 1), NONE);
        due("for -1", x.marks(0, -1), NONE);
        due("of none", x.marks(4, 0), NONE);
        due("of -1", x.marks(-1, 0), NONE);
        x.propose(1, 0);
        x.deliver(3);
        x.deliver(1);
        deliverHalf(x);
        due("two", x.marks(2, 1), 2);
        due("none at 1", x.marks(1, 1), 0);
        promise = 37;
        due("1 and 3", x.markers(2, 1), 10);
        due("none at 1", x.markers(1, 1), 0);
        due("for none", x.markers(2, 2), NONE);
        due("for -1", x.markers(2, -1), NONE);
        due("of none", x.markers(4, 0), NONE);
        due("of -1", x.markers(-1, 0), NONE);
        deliverAll(x);
        due("all", x.markers(2, 1), 15);
    }

    /** Delivers the marks alone. */
    private static void deliverHalf(Votes x) {
        for (int i = x.look(4) - 1; i >= 0; i--) {
            if (x.message(i, 2) == 2) x.deliver(i);
        }
    }

    private static void timeouts() {
        promise = 28;
        Votes x = new Votes();
        due("0", x.timeouts(0, 0), NONE);
        due("201", x.timeouts(0, 201), NONE);
        due("of none", x.timeouts(4, 1), NONE);
        due("of -1", x.timeouts(-1, 1), NONE);
        due("200", x.timeouts(0, 200), 0);
        x.mode(2, 2);
        x.lie(2, 2, 0, 200, 0);
        x.lie(2, 2, 0, 200, 0);
        x.timeout(1);
        deliverAll(x);
        due("once", x.timeouts(0, 200), 1);
        due("one of 1", x.timeouts(3, 1), 1);
        due("none of 2", x.timeouts(3, 2), 0);
    }

    private static void message() {
        promise = 29;
        Votes x = new Votes();
        due("none", x.message(0, 0), -2);
        x.propose(1, 0);
        due("what 5", x.message(0, 5), -2);
        due("what -1", x.message(0, -1), -2);
        due("4", x.message(4, 0), -2);
        due("-1", x.message(-1, 0), -2);
        due("HIGH of a block", x.message(3, 4), NONE);
        x.deliver(0);
        int[] mark = {0, 2, 2, 1, NONE};
        for (int w = 0; w < 5; w++) due("mark " + w, x.message(3, w), mark[w]);
        deliverAll(x);
        x.timeout(2);
        int[] timeout = {2, 3, 3, 2, 1};
        for (int w = 0; w < 5; w++) due("timeout " + w, x.message(3, w), timeout[w]);
        // The 201st is LOST, of a send to all each by itself.
        x = liars(0, 1, 2, 3);
        for (int i = 0; i < 50; i++) x.lie(i % 4, 2, 0, 1 + i, 0);
        due("200", x.look(4), 200);
        due("none lost", x.look(5), 0);
        due("the 200th", x.message(199, 3), 50);
        due("the 201st", x.message(200, 3), -2);
        x.timeout(0);
        due("four lost", x.look(5), 4);
        due("TIMED all the same", x.node(0, 4), 1);
        x.drop(0);
        x.drop(7);
        x.drop(100);
        due("block", x.propose(1, 0), 1);
        due("one lost", x.look(5), 5);
        due("the last", x.message(199, 1), 2);
        due("a mark is lost", x.lie(0, 0, 1, 0, 0), 0);
        due("one more", x.look(5), 6);
    }

    private static void evidence() {
        promise = 30;
        Votes x = liars(0, 1, 2, 3);
        due("none", x.evidence(0, 0), NONE);
        for (int i = 0; i < 25; i++) x.lie(1, 1, 0, 1, i);
        due("100 messages", x.look(4), 100);
        x.deliver(8);
        due("none yet", x.look(6), 0);
        x.deliver(0);
        int[] first = {1, 1, 0, 3, 1};
        for (int w = 0; w < 5; w++) due("line 0, " + w, x.evidence(0, w), first[w]);
        due("what 5", x.evidence(0, 5), NONE);
        due("what -1", x.evidence(0, -1), NONE);
        due("line 1", x.evidence(1, 0), NONE);
        due("line -1", x.evidence(-1, 0), NONE);
        x.deliver(3);
        due("the first that was", x.evidence(1, 3), 3);
        due("then 2", x.evidence(1, 4), 2);
        deliverAll(x);
        due("60 lines", x.look(6), 60);
        due("the 60th", x.evidence(59, 0), 1);
        due("the 61st", x.evidence(60, 0), NONE);
        due("against one", x.audit(1), 1);

        // Marks: of several the least, against who marked; nothing by one noted already.
        x = liars(0, 1, 2, 3);
        for (int i = 0; i < 4; i++) x.lie(1, 1, 0, 1, i);
        x.lie(2, 1, 0, 2, 0);
        emptyNet(x);
        x.lie(3, 0, 4, 0, 0);
        x.lie(3, 0, 2, 0, 0);
        x.lie(3, 0, 3, 0, 0);
        x.lie(3, 0, 2, 0, 0);
        x.lie(0, 0, 1, 0, 0);
        x.lie(3, 0, 5, 0, 0);
        deliverAll(x);
        due("two lines", x.look(6), 2);
        int[] a = {2, 3, 2, 4, 2};
        int[] b = {2, 3, 2, 2, 3};
        for (int w = 0; w < 5; w++) due("first, " + w, x.evidence(0, w), a[w]);
        for (int w = 0; w < 5; w++) due("second, " + w, x.evidence(1, w), b[w]);
        due("marks", x.markers(2, 2), 8);
    }

    private static void event() {
        promise = 31;
        Votes x = new Votes();
        due("none", x.event(0, 0), NONE);
        x.calm(1);
        int[][] lines = {{0, 0, 1}, {0, 1, 1}, {0, 2, 1}, {0, 3, 1}, {2, 2, 1}};
        for (int i = 0; i < lines.length; i++) {
            for (int w = 0; w < 3; w++) due("event(" + i + ", " + w + ")", x.event(i, w), lines[i][w]);
        }
        due("five", x.look(15), 5);
        due("what 3", x.event(0, 3), NONE);
        due("what -1", x.event(0, -1), NONE);
        due("line 5", x.event(5, 0), NONE);
        due("line -1", x.event(-1, 0), NONE);
        x.calm(20);
        due("100", x.look(15), 100);
        due("the 100th", x.event(99, 0) >= 0, true);
        due("the 101st", x.event(100, 0), NONE);
    }

    private static void ledger() {
        promise = 32;
        Votes x = new Votes();
        due("account -1", x.ledger(0, false, -1), NONE);
        due("account 5", x.ledger(0, true, 5), NONE);
        due("node 4", x.ledger(4, false, 0), NONE);
        due("node -1", x.ledger(-1, false, 0), NONE);
        due("block 1", x.ledger(1, true, 0), NONE);
        due("block -1", x.ledger(-1, true, 0), NONE);
        // 30 more to 2; 49 less of 0 (0 at least); 45, or all, of 4 to 0; 7 of 2 to 3; all of 3 to 2; all of 0 to 4.
        int[] payloads = {130, 299, 500 + 200 + 45, 500 + 100 + 7, 750 + 100, 750 + 200 + 3};
        int[][] due = {{10, 10, 40, 10, 10}, {0, 10, 40, 10, 10}, {10, 10, 40, 10, 0}, {10, 10, 33, 17, 0},
            {10, 10, 50, 0, 0}, {0, 10, 50, 0, 10}};
        for (int i = 0; i < payloads.length; i++) {
            due("propose", x.propose((i + 1) % 4, payloads[i]), i + 1);
            deliverAll(x);
            for (int a = 0; a < 5; a++) due("block " + (i + 1) + " account " + a, x.ledger(i + 1, true, a), due[i][a]);
        }
        due("node 3 has committed 4", x.node(3, 9), 4);
        due("node 0 has committed 3", x.node(0, 9), 3);
        for (int a = 0; a < 5; a++) due("node 3 account " + a, x.ledger(3, false, a), due[3][a]);
        for (int a = 0; a < 5; a++) due("node 0 account " + a, x.ledger(0, false, a), due[2][a]);
        due("block 0", x.ledger(0, true, 2), 10);
        due("less than all", ledgerOf(297 + 50), 0);
        due("some less", ledgerOf(253), 7);
        due("none", ledgerOf(250), 10);
    }

    /** ACCOUNT of a single PAYLOAD's own behind it. */
    private static int ledgerOf(int payload) {
        Votes x = new Votes();
        x.propose(1, payload);
        return x.ledger(1, true, payload / 50 % 5);
    }

    private static void without() {
        promise = 33;
        Votes x = new Votes();
        due("4", x.without(4), NONE);
        due("-1", x.without(-1), NONE);
        for (int i = 0; i < 4; i++) due("of four leaders one is missing", x.without(i), NONE);
        due("MODE stays", x.node(3, 0), 0);
        due("nothing stays", x.look(3) + x.look(15) + x.look(11), 1);
        x.nodes(5);
        // VIEWS 1, 2, 3, but who would count VIEW 3's marks is missing; two rounds of timeouts; VIEWS 5, 6, 7.
        due("five, without 4", x.without(4), 8);
        due("five, without 0", x.without(0), 3);
        due("five, without 1: one round of timeouts first", x.without(1), 4);
        x.mode(4, 1);
        due("already silent", x.without(4), x.soon());
    }

    private static void audit() {
        promise = 34;
        Votes x = new Votes();
        due("5", x.audit(5), NONE);
        due("-1", x.audit(-1), NONE);
        x = liars(0, 1, 2, 3);
        int a = forge(x, 0, 1);
        int b = forge(x, 0, 1);
        int c = forge(x, 0, 1);
        due("three couples", x.audit(0), 3);
        int d = forge(x, a, 2);
        forge(x, b, 2);
        due("four couples", x.audit(0), 4);
        due("against 0, 1, 2", x.audit(1), 3);
        due("in common", x.audit(2), 1);
        forge(x, d, 3);
        due("0 has committed a", x.node(0, 9), a);
        due("longest", x.audit(3), 2);
        due("in common still", x.audit(2), 1);
        due("no strays: the others have 0", x.audit(4), 0);
        for (int i = 1; i < 4; i++) x.ask(i, 0);
        due("in common", x.audit(2), 2);
        due("strays: b, c and b's child", x.audit(4), 3);
        x.mode(0, 1);
        due("silent: longest", x.audit(3), 2);
        due("silent: strays", x.audit(4), 3);
        for (int i = 1; i < 4; i++) x.mode(i, 1);
        due("no such node", x.audit(2), 0);
        due("longest of all", x.audit(3), 2);
        due("c", c, 3);
        x = new Votes();
        x.calm(3);
        due("in common", x.audit(2), 1);
        for (int i = 1; i < 4; i++) x.mode(i, 1);
        due("of 0 alone", x.audit(2), 2);
        due("silent ones have 0 as the last", x.audit(4), 0);
    }

    private static void pending() {
        promise = 35;
        Votes x = new Votes();
        x.propose(1, 0);
        x.deliver(3);
        x.timeout(0);
        x.timeout(3);
        int[] two = {4, 1, 1, 2};
        for (int k = 0; k < 4; k++) due("to 2 of " + k, x.pending(2, k), two[k]);
        due("to 3 of 1", x.pending(3, 1), 0);
        due("4", x.pending(2, 4), NONE);
        due("-1", x.pending(2, -1), NONE);
        due("node 4", x.pending(4, 0), NONE);
        due("node -1", x.pending(-1, 0), NONE);
    }

    private static void path() {
        promise = 36;
        Votes x = liars(0, 1, 2, 3);
        int a = forge(x, 0, 1);
        int b = forge(x, 0, 1);
        int c = forge(x, a, 2);
        int d = forge(x, b, 2);
        due("c 0", x.path(c, 0), 0);
        due("c 1", x.path(c, 1), a);
        due("c 2", x.path(c, 2), c);
        due("c 3", x.path(c, 3), NONE);
        due("d 1", x.path(d, 1), b);
        due("d -1", x.path(d, -1), NONE);
        due("none", x.path(5, 0), NONE);
        due("-1", x.path(-1, 0), NONE);
        due("0 0", x.path(0, 0), 0);
    }

    private static void best() {
        promise = 38;
        Votes x = new Votes();
        for (int w = 0; w < 4; w++) due("fresh " + w, x.best(w), 0);
        due("4", x.best(4), NONE);
        due("-1", x.best(-1), NONE);
        x = liars(0, 1, 2, 3);
        int a = forge(x, 0, 1);
        int b = forge(x, 0, 1);
        due("of several the least", x.best(0), a);
        int c = forge(x, b, 2);
        int d = forge(x, a, 2);
        due("of several the least", x.best(0), c);
        due("LOCK: 3 has b by c, then a by d doesn't move it", x.best(1), b);
        due("least HIGH", x.best(2), 0);
        due("logs", x.best(3), 0);
        forge(x, d, 3);
        due("0 committed a", x.node(0, 9), a);
        due("log", x.best(3), a);
        due("LOCK", x.best(1), d);
        x.mode(0, 1);
        due("0 is silent: log", x.best(3), 0);
        due("0 is silent: LOCK", x.best(1), b);
        x.mode(1, 1);
        due("the HIGH of 2 and 3: of VIEW 1 the one of 2", x.best(2), x.node(2, 5));
        x.mode(2, 1);
        x.mode(3, 1);
        for (int w = 1; w < 4; w++) due("all silent " + w, x.best(w), NONE);
        due("certified all the same", x.best(0), 5);
    }

    private static void soon() {
        promise = 39;
        Votes x = new Votes();
        due("three rounds", x.soon(), 3);
        due("nothing stays", x.look(3) + x.look(15) + x.look(11) + x.look(4), 1);
        x.calm(1);
        due("two", x.soon(), 2);
        x.calm(1);
        due("one", x.soon(), 1);
        x.calm(1);
        due("one", x.soon(), 1);
        x.mode(3, 1);
        x.mode(2, 1);
        due("none", x.soon(), 1);
        x = liars(0, 1, 2, 3);
        due("nobody is honest", x.soon(), NONE);
        x.mode(3, 0);
        due("3 alone is: it commits by the certificate that BLOCK 4 carries", x.soon(), 4);
        x.mode(3, 2);
        x.mode(0, 0);
        due("0 alone is: it counts the marks for BLOCK 3", x.soon(), 3);
        x = new Votes();
        x.mode(0, 1);
        due("a leader is missing", x.soon(), NONE);
    }

    private static boolean isLonger(Votes x, int[] before) {
        for (int i = 0; i < before.length; i++) {
            if (x.node(i, 0) == 0 && x.node(i, 8) > before[i]) return true;
        }
        return false;
    }

    /** SOON as the document says it: by CALM itself, for each number of rounds from the image. */
    private static int soonByCalm(Votes x) {
        int[] before = new int[x.look(0)];
        for (int i = 0; i < before.length; i++) before[i] = x.node(i, 8);
        x.image(true);
        for (int r = 1; r <= 20; r++) {
            x.calm(r);
            boolean longer = isLonger(x, before);
            x.image(false);
            if (longer) return r;
        }
        return NONE;
    }

    /** An object in which one NODE, a liar, is ahead in a VIEW: the others commit once they have come to it. */
    private static Votes oneAhead(int n, int rule, int who, int view) {
        Votes x = new Votes();
        x.nodes(n);
        x.leaders(rule);
        for (int i = 0; i < n; i++) x.mode(i, 2);
        for (int i = 0; i < x.look(2); i++) x.lie(i, 2, 0, view - 1, 0);
        for (int i = 0; i < n; i++) if (i != who) x.lose(i);
        deliverAll(x);
        for (int i = 0; i < n; i++) if (i != who) x.mode(i, 0);
        return x;
    }

    private static void soonLater() {
        promise = 39;
        for (int view = 2; view < 30; view++) {
            for (int n = 4; n < 8; n++) {
                Votes x = oneAhead(n, view % 3, n - 3, view);
                due("one ahead of " + n + " at VIEW " + view, x.soon(), soonByCalm(x));
            }
        }
        due("the 20th round", oneAhead(4, 0, 1, 14).soon(), 20);
        Votes x = oneAhead(6, 2, 1, 14);
        due("not by 20", x.soon(), NONE);
        int[] before = {1, 1, 1, 1, 1, 1};
        x.calm(20);
        due("not yet", isLonger(x, before), false);
        x.calm(1);
        due("but by 21", isLonger(x, before), true);
    }

    private static void two() {
        promise = 40;
        Votes x = liars(0, 1, 2, 3);
        int a = forge(x, 0, 1);
        int b = forge(x, a, 2);
        int c = forge(x, a, 2);
        int d = forge(x, c, 3);
        due("itself", x.two(b, b, 0), 1);
        due("b a", x.two(b, a, 0), 1);
        due("a b", x.two(a, b, 0), 0);
        due("d 0", x.two(d, 0, 0), 1);
        due("d b", x.two(d, b, 0), 0);
        due("common", x.two(d, b, 1), a);
        due("common", x.two(b, d, 1), a);
        due("common", x.two(d, c, 1), c);
        due("common of 0", x.two(0, d, 1), 0);
        due("what 2", x.two(a, b, 2), NONE);
        due("what -1", x.two(a, b, -1), NONE);
        due("none", x.two(5, 0, 0), NONE);
        due("none", x.two(0, 5, 1), NONE);
        due("-1", x.two(-1, 0, 0), NONE);
        due("-1", x.two(0, -1, 0), NONE);
    }

    private static void would() {
        promise = 41;
        Votes x = new Votes();
        due("for 0", x.would(0, 0), NONE);
        due("for none", x.would(0, 1), NONE);
        x.propose(1, 0);
        due("of none", x.would(4, 1), NONE);
        due("of -1", x.would(-1, 1), NONE);
        due("for -1", x.would(0, -1), NONE);
        due("yes", x.would(0, 1), 1);
        due("nothing stays", x.node(0, 2) + x.since(0, 4) + x.look(15), 0);
        x.mode(0, 1);
        due("silent", x.would(0, 1), 0);
        x.mode(0, 2);
        due("a liar", x.would(0, 1), 1);
        x.deliver(0);
        due("no more", x.would(0, 1), 0);
        deliverAll(x);
        x.propose(2, 0);
        due("one who has not moved yet", x.would(0, 2), 1);
        due("its VIEW stays", x.node(0, 1), 1);
        // Once more: it was delivered, but the NODE was not there yet.
        x = liars(0, 1, 2, 3);
        x.lie(3, 1, 0, 3, 0);
        x.deliver(0);
        due("not yet", x.would(0, 1), 0);
        emptyNet(x);
        goToView(x, 3);
        due("now", x.would(0, 1), 1);
        // Its LOCK is moved by the BLOCK's own certificate first.
        x = liars(0, 1, 2, 3);
        int a = forge(x, 0, 1);
        int b = forge(x, a, 2);
        int c = forge(x, 0, 3);
        x.ask(1, 3);
        due("LOCK of 1", x.node(1, 6), a);
        due("VIEW of 1", x.node(1, 1), 3);
        due("not there, and nothing takes it along", x.would(1, x.lie(0, 1, b, 4, 0)), 0);
        emptyNet(x);
        goToView(x, 4);
        int d = x.lie(0, 1, c, 4, 0);
        due("JUSTIFY above the LOCK", x.would(1, d), 1);
        int e = x.lie(0, 1, b, 4, 0);
        due("EXTENDS", x.would(1, e), 1);
        int f = x.lie(0, 3, b, 4, 0);
        due("PARENT is not JUSTIFY", x.would(1, f), 0);
    }

    private static void chain() {
        promise = 42;
        Votes x = liars(0, 1, 2, 3);
        x.lie(1, 1, 0, 1, 100);
        emptyNet(x);
        for (int i = 0; i < 3; i++) x.lie(i, 0, 1, 0, 0);
        deliverAll(x);
        x.lie(2, 1, 1, 2, 20);
        emptyNet(x);
        for (int i = 0; i < 3; i++) x.lie(i, 0, 2, 0, 0);
        deliverAll(x);
        x.lie(0, 3, 2, 4, 3);
        x.lie(1, 3, 3, 5, 1);
        x.lie(1, 3, 1, 5, 7);
        emptyNet(x);
        int[] four = {5, 124, 1, 4, 0, 2, 0};
        int[] two = {3, 120, 3, 4, 0, 3, 0};
        int[] one = {2, 100, 5, 4, 0, 2, 1};
        int[] zero = {1, 0, 6, 4, 4, 1, 4};
        for (int w = 0; w < 7; w++) {
            due("chain(4, " + w + ")", x.chain(4, w), four[w]);
            due("chain(2, " + w + ")", x.chain(2, w), two[w]);
            due("chain(1, " + w + ")", x.chain(1, w), one[w]);
            due("chain(0, " + w + ")", x.chain(0, w), zero[w]);
        }
        due("what 7", x.chain(0, 7), NONE);
        due("what -1", x.chain(0, -1), NONE);
        due("none", x.chain(6, 0), NONE);
        due("-1", x.chain(-1, 0), NONE);
        due("MIN", x.chain(MIN, 2), NONE);
        x.mode(3, 1);
        due("HOLD without a silent one", x.chain(0, 6), 3);
        due("HOLD of 1 was the silent one's", x.chain(1, 6), 0);
        x = new Votes();
        x.calm(4);
        x.mode(1, 1);
        due("committed by silent ones, too", x.chain(2, 4), 1);
        due("committed", x.chain(1, 4), 4);
    }

    private static void image() {
        promise = 43;
        Votes x = new Votes();
        due("none", x.image(false), false);
        x.nodes(5);
        x.leaders(1);
        x.state(9);
        x.cut(0, 1, true);
        plan(x, "calm 1;calm 1;calm 1;");
        x.run(1);
        x.propose(x.node(0, 11) == 1 ? 0 : 1, 4);
        due("taken", x.image(true), true);
        int[] before = new int[21];
        for (int w = 0; w < 21; w++) before[w] = x.look(w);
        for (int turn = 0; turn < 2; turn++) {
            x.storm(10, 3);
            x.cut(2, 3, true);
            x.mode(4, 2);
            x.lie(4, 2, 0, 9, 0);
            x.run(3);
            plan(x, "calm 2;");
            plan(x, "calm 0;");
            x.feed(0x63616c6d, 0x20313b20, 0x20202020, 0x0a0a0a0a, 0x20200a20);
            due("back", x.image(false), true);
            for (int w = 0; w < 21; w++) due("look(" + w + ") as it was", x.look(w), before[w]);
            due("fault() stays", x.fault(0), 2);
            due("its place, too", x.fault(1), 5);
            due("MODE", x.node(4, 0), 0);
            due("the tape stays", x.end(20), true);
            due("no more of it", x.end(21), false);
            x.end(0);
        }
        due("the plan goes on", x.run(3), 2);
        // What went on after it was taken does not change it; a new one takes its place.
        x = new Votes();
        x.image(true);
        x.calm(4);
        x.image(true);
        x.calm(4);
        x.image(false);
        due("the new one", x.look(3), 5);
        x.nodes(4);
        due("node's log", x.log(1, 2), 2);
    }

    private static void look() {
        promise = 44;
        Votes x = new Votes();
        due("21", x.look(21), NO_NUMBER);
        due("-1", x.look(-1), NO_NUMBER);
        due("MIN", x.look(MIN), NO_NUMBER);
        x.nodes(7);
        x.leaders(1);
        x.state(-5);
        x.mode(6, 1);
        x.mode(2, 1);
        x.mode(5, 2);
        x.cut(0, 3, true);
        x.cut(1, 3, true);
        due("silent", x.look(17), 64 + 4);
        due("liars", x.look(18), 32);
        due("couples", x.look(20), 2);
        plan(x, "propose 0 9;timeout 3;");
        due("ran", x.run(1), 1);
        int[] due = {7, 2, 5, 2, 6, 0, 0, 0, 0, 2, 1, 0, 1, 1, -5, 0, 1, 68, 32, 1, 2};
        for (int w = 0; w < due.length; w++) due("look(" + w + ")", x.look(w), due[w]);
        x.mode(1, 1);
        for (int i = 0; i < 7; i++) x.mode(i, 1);
        due("greatest VIEW of none", x.look(12), 0);
        due("all silent", x.look(17), 127);
        due("no unlike logs", x.look(7), 0);

        // UNLIKE LOGS: not if one of the two is silent.
        x = liars(0, 1, 2, 3);
        int a = forge(x, 0, 1);
        int b = forge(x, 0, 1);
        forge(x, forge(x, a, 2), 3);
        due("0 committed", x.node(0, 9), a);
        due("alike", x.look(7), 0);
        int c = forge(x, b, 6);
        forge(x, forge(x, c, 7), 8);
        due("1 committed", x.node(1, 9), c);
        due("unlike", x.look(7), 1);
        x.mode(0, 1);
        due("silent", x.look(7), 0);
        due("greatest VIEW", x.look(12), 9);
        due("certified", x.look(13), 8);
    }

    public static void main(String[] args) {
        newObject();
        nodes();
        mode();
        propose();
        proposeWithoutGround();
        timeout();
        lieMarksAndTimeouts();
        lieBlocks();
        deliver();
        deliverBlocks();
        deliverUnsafe();
        learnAndCommit();
        deliverMarks();
        deliverTimeouts();
        drop();
        lose();
        leaders();
        cut();
        reach();
        since();
        state();
        ask();
        storm();
        turn();
        calm();
        feed();
        end();
        plan();
        fault();
        run();
        node();
        log();
        block();
        marksAndMarkers();
        timeouts();
        message();
        evidence();
        event();
        ledger();
        without();
        audit();
        pending();
        path();
        best();
        soon();
        soonLater();
        two();
        would();
        chain();
        image();
        look();
        System.out.println(wrong == 0 ? "all answers are as due" : wrong + " answers are not as due");
        if (wrong != 0) System.exit(1);
    }
}
