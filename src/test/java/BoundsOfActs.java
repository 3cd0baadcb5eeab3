import java.io.IOException;

/** The boundary cases of promises 1 to 18, a test for each: what is told, done, sent and delivered. */
public final class BoundsOfActs extends Bounds {
    public static void main(String[] args) throws IOException, IllegalAccessException {
        runAll(BoundsOfActs.class, 1, 18);
    }

    /** node(i, 0 .. 12) of a NODE as at first, but for whether it can PROPOSE. */
    private static void dueAsAtFirst(Votes x, int i, boolean canPropose) {
        dueRow("node " + i, w -> x.node(i, w), 0, 1, 0, 0, 0, 0, 0, 0, 1, 0, 0, canPropose ? 1 : 0, 1);
        due("its LOG's first", x.log(i, 0), 0);
        due("no BLOCK was proposed to it", x.since(i, 4), 0);
        due("it has no TIMEOUTS", x.since(i, 5), 0);
        due("it has no MARKS", x.since(i, 6), 0);
    }

    private static void dueMessage(Votes x, int i, int from, int to, int kind, int what, int high) {
        dueRow("message " + i, w -> x.message(i, w), from, to, kind, what, high);
    }

    // ---------------------------------------------------------------- 1: a new object

    static void newFourHonest() {
        sentence(1, "Four honest nodes, BLOCK 0.");
        Votes x = new Votes();
        due("look(0)", x.look(0), 4);
        due("look(3)", x.look(3), 1);
        due("look(17)", x.look(17), 0);
        due("look(18)", x.look(18), 0);
        due("node(3, 0)", x.node(3, 0), 0);
        due("node(4, 0)", x.node(4, 0), NONE);
        due("block(1, 0)", x.block(1, 0), NONE);
    }

    static void newBlockZero() {
        sentence(1, "BLOCK 0: VIEW 0, HEIGHT 0, PARENT NONE, JUSTIFY 0, PAYLOAD 0, BY NONE, CERTIFIED.");
        Votes x = new Votes();
        dueRow("block 0", w -> x.block(0, w), 0, NONE, 0, 0, NONE, 0, 0, 1);
    }

    static void newNodes() {
        sentence(1, "A NODE has VIEW (1 at first), VOTED (0:");
        Votes x = new Votes();
        for (int i = 0; i < 4; i++) dueAsAtFirst(x, i, i == 1);
    }

    static void newLog() {
        sentence(1, "a LOG of BLOCKS committed (0 alone at first)");
        Votes x = new Votes();
        for (int i = 0; i < 4; i++) {
            due("log(" + i + ", 0)", x.log(i, 0), 0);
            due("log(" + i + ", 1)", x.log(i, 1), NONE);
        }
    }

    static void newCounts() {
        sentence(1, "STATE of draws (an int, 0 at first)");
        Votes x = new Votes();
        dueRow("look", x::look, 4, 1, 3, 1, 0, 0, 0, 0, 0, 0, 0, 0, 1, 1, 0, 0, 0, 0, 0, 0, 0);
    }

    static void newTapeIsEmpty() {
        sentence(1, "`ChainVotes()`: Four honest nodes");
        Votes x = new Votes();
        due("end(1)", x.end(1), false);
        due("end(0)", x.end(0), true);
        due("fault(0)", x.fault(0), 0);
        due("fault(1)", x.fault(1), NONE);
        due("image(false)", x.image(false), false);
    }

    static void newNone() {
        sentence(1, "`NONE = -1`");
        due("NONE", ChainVotes.NONE, -1);
    }

    static void newEachByItself() {
        sentence(1, "`ChainVotes()`: Four honest nodes");
        Votes other = Votes.busy();
        Votes x = new Votes();
        dueRow("look", x::look, 4, 1, 3, 1, 0, 0, 0, 0, 0, 0, 0, 0, 1, 1, 0, 0, 0, 0, 0, 0, 0);
        x.calm(3);
        due("the other's BLOCKS", other.look(3), 2);
    }

    static void the512thCall() {
        sentence(1, "An object is used for at most 512 calls after it has been made");
        Votes x = new Votes();
        for (int i = 0; i < 510; i++) due("state " + i, x.state(i + 1), i);
        due("the 511th call, calm(3)", x.calm(3), 1);
        due("the 512th call, look(3)", x.look(3), 4);
        due("calls", x.calls(), 512);
    }

    static void the512thThought() {
        sentence(1, "An object is used for at most 512 calls after it has been made");
        Votes x = new Votes();
        for (int i = 0; i < 512; i++) due("soon " + i, x.soon(), 3);
    }

    // ---------------------------------------------------------------- 2: nodes

    static void nodesFourToSeven() {
        sentence(2, "4 .. 7 can be told");
        Votes x = new Votes();
        due("nodes(3)", x.nodes(3), false);
        for (int n = 4; n <= 7; n++) {
            due("nodes(" + n + ")", x.nodes(n), true);
            due("look(0)", x.look(0), n);
        }
        due("nodes(8)", x.nodes(8), false);
        due("look(0)", x.look(0), 7);
        due("nodes(4)", x.nodes(4), true);
        due("look(0)", x.look(0), 4);
    }

    static void nodesFarBeyond() {
        sentence(2, "false if one can't be");
        Votes x = new Votes();
        for (int n : new int[] {MIN, -7, -4, -1, 0, 1, 2, 3, 8, 9, 36, 1000, MAX}) {
            due("nodes(" + n + ")", x.nodes(n), false);
            due("look(0)", x.look(0), 4);
        }
    }

    static void nodesNotWithOneMessage() {
        sentence(2, "while there is no message and no BLOCK but 0");
        Votes x = new Votes();
        x.timeout(0);
        for (int i = 0; i < 3; i++) x.drop(0);
        due("MESSAGES", x.look(4), 1);
        for (int n = 4; n <= 7; n++) due("nodes(" + n + ")", x.nodes(n), false);
        due("look(0)", x.look(0), 4);
        due("TIMED", x.node(0, 4), 1);
        x.drop(0);
        due("nodes(5) with none", x.nodes(5), true);
        due("look(0)", x.look(0), 5);
    }

    static void nodesNotWithABlock() {
        sentence(2, "while there is no message and no BLOCK but 0");
        Votes x = new Votes();
        x.propose(1, 0);
        x.empty();
        due("MESSAGES", x.look(4), 0);
        for (int n = 4; n <= 7; n++) due("nodes(" + n + ")", x.nodes(n), false);
        due("look(0)", x.look(0), 4);
        due("PROPOSED", x.node(1, 3), 1);
    }

    static void nodesAllAsAtFirst() {
        sentence(2, "all of them as at first, honest, none CUT");
        Votes x = Votes.liars(7);
        x.toView(4);
        for (int i = 0; i < 7; i++) x.timeout(i);
        x.empty();
        dueRow("node 6 ahead of it", w -> x.node(6, w), 2, 4, 4, 0, 4, 0, 0, 3, 1, 0, 0, 0, 0);
        due("TIMEOUTS of 6", x.timeouts(6, 3), 5);
        due("nodes(4)", x.nodes(4), true);
        for (int i = 0; i < 4; i++) dueAsAtFirst(x, i, i == 1);
        due("TIMEOUTS of 0", x.timeouts(0, 3), 0);
        due("no NODE 4", x.node(4, 1), NONE);
        due("nodes(7)", x.nodes(7), true);
        for (int i = 4; i < 7; i++) dueAsAtFirst(x, i, false);
        due("TIMEOUTS of 6", x.timeouts(6, 3), 0);
    }

    static void nodesSameNumber() {
        sentence(2, "all of them as at first, honest, none CUT");
        Votes x = new Votes();
        x.mode(2, 1);
        x.cut(0, 1, true);
        x.timeout(0);
        x.empty();
        due("nodes(4)", x.nodes(4), true);
        for (int i = 0; i < 4; i++) dueAsAtFirst(x, i, i == 1);
        due("couples CUT", x.look(20), 0);
    }

    static void nodesNoneCut() {
        sentence(2, "all of them as at first, honest, none CUT");
        Votes x = new Votes();
        x.nodes(7);
        x.cut(5, 6, true);
        x.cut(0, 1, true);
        due("couples", x.look(20), 2);
        x.nodes(4);
        due("couples of 4", x.look(20), 0);
        due("reach(0)", x.reach(0), 15);
        x.nodes(7);
        due("couples of 7", x.look(20), 0);
        due("reach(1)", x.reach(1), 127);
        due("reach(5)", x.reach(5), 127);
        due("reach(6)", x.reach(6), 127);
    }

    static void nodesEventsStay() {
        sentence(2, "EVENTS, STATE, the RULE, what is counted, the plan stay");
        Votes x = new Votes();
        for (int i = 0; i < 3; i++) x.timeout(i);
        x.deliverAll();
        due("EVENTS", x.look(15), 4);
        due("nodes(5)", x.nodes(5), true);
        due("EVENTS", x.look(15), 4);
        dueRow("event 3", w -> x.event(3, w), 5, 3, 1);
    }

    static void nodesStateAndRuleStay() {
        sentence(2, "EVENTS, STATE, the RULE, what is counted, the plan stay");
        Votes x = new Votes();
        x.state(-77);
        x.leaders(2);
        due("nodes(6)", x.nodes(6), true);
        due("STATE", x.look(14), -77);
        due("RULE", x.look(16), 2);
    }

    static void nodesCountsStay() {
        sentence(2, "EVENTS, STATE, the RULE, what is counted, the plan stay");
        Votes x = new Votes();
        x.cut(0, 1, true);
        x.timeout(0);
        x.deliver(0);
        x.mode(2, 2);
        for (int i = 0; i < 50; i++) x.lie(2, 2, 0, 9, 0);
        x.empty();
        due("nodes(5)", x.nodes(5), true);
        due("LOST", x.look(5), 2);
        due("delivered", x.look(11), 1);
        due("CUT", x.look(19), 1);
    }

    static void nodesPlanStays() {
        sentence(2, "EVENTS, STATE, the RULE, what is counted, the plan stay");
        Votes x = new Votes();
        x.planOf("lose 0;lose 6;lose 1;");
        x.run(1);
        due("nodes(7)", x.nodes(7), true);
        due("lines", x.look(9), 3);
        due("lines that were run", x.look(10), 1);
        due("run(24)", x.run(24), 2);
    }

    static void nodesRefused() {
        sentence(2, "false if one can't be");
        changesNothing(Votes::busy, x -> {
            for (int n = 2; n <= 9; n++) due("nodes(" + n + ")", x.nodes(n), false);
        });
    }

    // ---------------------------------------------------------------- 3: mode

    static void modeZeroToTwo() {
        sentence(3, "MODE of a NODE: 0 honest (at first), 1 silent, 2 a liar.");
        Votes x = new Votes();
        due("at first", x.node(2, 0), 0);
        due("mode(2, -1)", x.mode(2, -1), false);
        for (int m = 0; m <= 2; m++) {
            due("mode(2, " + m + ")", x.mode(2, m), true);
            due("node(2, 0)", x.node(2, 0), m);
        }
        due("mode(2, 3)", x.mode(2, 3), false);
        due("mode(2, MAX)", x.mode(2, MAX), false);
        due("mode(2, MIN)", x.mode(2, MIN), false);
        due("node(2, 0)", x.node(2, 0), 2);
    }

    static void modeOfWhichNode() {
        sentence(3, "true; false if one can't be");
        for (int n = 4; n <= 7; n++) {
            Votes x = new Votes();
            x.nodes(n);
            due("mode(-1, 1)", x.mode(-1, 1), false);
            due("mode(0, 1)", x.mode(0, 1), true);
            due("mode of the last", x.mode(n - 1, 1), true);
            due("mode of the one behind it", x.mode(n, 1), false);
            due("mode(MAX, 1)", x.mode(MAX, 1), false);
            due("mode(MIN, 1)", x.mode(MIN, 1), false);
            due("the silent ones", x.look(17), 1 | 1 << n - 1);
        }
    }

    static void modeOfOneThatWas() {
        sentence(3, "true; false if one can't be");
        Votes x = new Votes();
        x.nodes(7);
        x.nodes(4);
        due("mode(4, 1)", x.mode(4, 1), false);
        due("mode(6, 2)", x.mode(6, 2), false);
        x.nodes(7);
        due("node(4, 0)", x.node(4, 0), 0);
        due("node(6, 0)", x.node(6, 0), 0);
    }

    static void modeSilentTakesNothing() {
        sentence(3, "A NODE that is silent takes nothing (MESSAGES to it are gone when they are delivered, and count as delivered).");
        Votes x = Votes.liars(4);
        x.propose(1, 0);
        x.lie(0, 0, 1, 0, 0);
        x.lie(0, 2, 0, 1, 0);
        x.mode(2, 1);
        due("a BLOCK", x.deliver(2), 1);
        due("a mark", x.deliver(3), 2);
        due("a timeout", x.deliver(5), 3);
        due("they are gone", x.look(4), 6);
        due("and count as delivered", x.look(11), 3);
        dueRow("node 2", w -> x.node(2, w), 1, 1, 0, 0, 0, 0, 0, 0, 1, 0, 0, 0, 0);
        due("no BLOCK", x.since(2, 4), 0);
        due("no timeout", x.since(2, 5), 0);
        due("no mark", x.since(2, 6), 0);
        due("no EVENTS", x.look(15), 0);
    }

    static void modeLiarTakesAll() {
        sentence(3, "A NODE that is silent takes nothing");
        Votes x = new Votes();
        x.mode(0, 2);
        x.propose(1, 0);
        due("a liar is delivered a BLOCK", x.deliver(0), 1);
        due("and votes", x.node(0, 2), 1);
    }

    static void modeAtAnyTime() {
        sentence(3, "MODE of a NODE: true; false if one can't be.");
        Votes x = Votes.busy();
        due("with MESSAGES and BLOCKS", x.mode(0, 1), true);
        due("node(0, 0)", x.node(0, 0), 1);
        due("back", x.mode(0, 0), true);
        due("node(0, 0)", x.node(0, 0), 0);
    }

    static void modeRefused() {
        sentence(3, "true; false if one can't be");
        changesNothing(Votes::busy, x -> {
            due("mode(4, 0)", x.mode(4, 0), false);
            due("mode(-1, 0)", x.mode(-1, 0), false);
            due("mode(0, 3)", x.mode(0, 3), false);
            due("mode(3, -1)", x.mode(3, -1), false);
        });
    }

    // ---------------------------------------------------------------- 4: propose

    static void proposePayload() {
        sentence(4, "PAYLOAD 0 .. 999");
        for (int p : new int[] {0, 1, 998, 999}) {
            Votes x = new Votes();
            due("propose(1, " + p + ")", x.propose(1, p), 1);
            due("its PAYLOAD", x.block(1, 3), p);
        }
        Votes x = new Votes();
        for (int p : new int[] {-1, 1000, 1001, MIN, MAX}) {
            due("propose(1, " + p + ")", x.propose(1, p), NONE);
            due("BLOCKS", x.look(3), 1);
        }
    }

    static void proposeByWhom() {
        sentence(4, "NONE if one can't be, or there are 100");
        Votes x = new Votes();
        for (int i : new int[] {-1, 4, 5, 7, MIN, MAX}) due("propose(" + i + ", 0)", x.propose(i, 0), NONE);
        due("BLOCKS", x.look(3), 1);
    }

    static void proposeNotSilent() {
        sentence(4, "TO PROPOSE (not silent; fewer than 100 BLOCKS; VIEW 200 at most)");
        Votes x = new Votes();
        x.mode(1, 1);
        due("silent", x.propose(1, 0), NONE);
        x.mode(1, 2);
        due("a liar", x.propose(1, 0), 1);
    }

    static void proposeThe99th() {
        sentence(4, "TO PROPOSE (not silent; fewer than 100 BLOCKS; VIEW 200 at most)");
        Votes x = new Votes();
        x.mode(1, 2);
        x.blocksTill(99);
        due("BLOCKS", x.look(3), 99);
        due("it can", x.node(1, 11), 1);
        due("propose(1, 5)", x.propose(1, 5), 99);
        due("BLOCKS", x.look(3), 100);
        dueRow("block 99", w -> x.block(99, w), 1, 0, 0, 5, 1, 1, 1, 0);
    }

    static void proposeThe100th() {
        sentence(4, "NONE if one can't be, or there are 100");
        Votes x = new Votes();
        x.mode(1, 2);
        x.blocksTill(100);
        due("BLOCKS", x.look(3), 100);
        due("it can", x.node(1, 11), 0);
        due("propose(1, 5)", x.propose(1, 5), NONE);
        due("BLOCKS", x.look(3), 100);
        due("MESSAGES", x.look(4), 0);
        due("PROPOSED", x.node(1, 3), 0);
    }

    static void proposeInView200() {
        sentence(4, "TO PROPOSE (not silent; fewer than 100 BLOCKS; VIEW 200 at most)");
        Votes x = Votes.liars(4);
        x.toView(200);
        due("propose(0, 0)", x.propose(0, 0), 1);
        due("its VIEW", x.block(1, 0), 200);
        due("PROPOSED", x.node(0, 3), 200);
    }

    static void proposeInView201() {
        sentence(4, "TO PROPOSE (not silent; fewer than 100 BLOCKS; VIEW 200 at most)");
        Votes x = Votes.liars(4);
        x.toView(201);
        due("VIEW", x.node(1, 1), 201);
        due("propose(1, 0)", x.propose(1, 0), NONE);
        due("it can", x.node(1, 11), 0);
        due("BLOCKS", x.look(3), 1);
    }

    static void proposeLeaderAlone() {
        sentence(4, "the NODE is LEADER of its VIEW");
        Votes x = new Votes();
        for (int i : new int[] {0, 2, 3}) due("propose(" + i + ", 0) in VIEW 1", x.propose(i, 0), NONE);
        due("propose(1, 0)", x.propose(1, 0), 1);
    }

    static void proposeOnceAView() {
        sentence(4, "PROPOSED is less");
        Votes x = new Votes();
        due("first", x.propose(1, 0), 1);
        due("PROPOSED", x.node(1, 3), 1);
        due("again", x.propose(1, 0), NONE);
        due("BLOCKS", x.look(3), 2);
        x.empty();
        for (int i = 0; i < 4; i++) x.mode(i, 2);
        x.toView(5);
        due("VIEW 5", x.propose(1, 0), 2);
    }

    static void proposeInViewOne() {
        sentence(4, "VIEW is 1, or VIEW of HIGH is one less, or PROOF is one less at least");
        Votes x = new Votes();
        due("PROOF", x.node(1, 7), 0);
        due("it can", x.node(1, 11), 1);
        due("propose(1, 0)", x.propose(1, 0), 1);
    }

    /** HIGH of the VIEW just ahead is ground enough; one of a greater VIEW is none. */
    static void proposeByHigh() {
        sentence(4, "VIEW is 1, or VIEW of HIGH is one less, or PROOF is one less at least");
        Votes x = Votes.liars(4);
        x.forge(0, 1);
        due("VIEW of 2", x.node(2, 1), 2);
        due("PROOF of 2", x.node(2, 7), 0);
        due("propose(2, 0)", x.propose(2, 0), 2);

        Votes y = Votes.liars(4);
        int high = y.forge(0, 4);
        y.lie(0, 2, high, 9, 0);
        y.deliverAll();
        y.forge(0, 1);
        due("VIEW of 2", y.node(2, 1), 2);
        due("VIEW of its HIGH", y.block(y.node(2, 5), 0), 4);
        due("propose(2, 0)", y.propose(2, 0), NONE);
        due("it can", y.node(2, 11), 0);
    }

    /** HIGH of VIEW 4 gives no ground, so PROOF alone can: of VIEW 1 in VIEW 3 it does not, of VIEW 2 it does. */
    static void proposeByProof() {
        sentence(4, "VIEW is 1, or VIEW of HIGH is one less, or PROOF is one less at least");
        Votes x = Votes.liars(4);
        int high = x.forge(0, 4);
        x.lie(0, 2, high, 9, 0);
        x.deliverAll();
        x.toView(2);
        x.forge(0, 2);
        due("VIEW of 3", x.node(3, 1), 3);
        due("PROOF of 3", x.node(3, 7), 1);
        due("propose(3, 0)", x.propose(3, 0), NONE);
        x.toView(3);
        due("PROOF of 3", x.node(3, 7), 2);
        due("propose(3, 0)", x.propose(3, 0), 3);
    }

    static void proposeProved() {
        sentence(4, "PROVED, if PROOF is one less at least (VIEW 1: always)");
        Votes x = new Votes();
        x.propose(1, 0);
        due("VIEW 1", x.block(1, 6), 1);
        x.deliverAll();
        x.propose(2, 0);
        due("VIEW 2 with PROOF 0", x.block(2, 6), 0);
        Votes y = new Votes();
        for (int i = 0; i < 3; i++) y.timeout(i);
        y.deliverAll();
        y.propose(2, 0);
        due("VIEW 2 with PROOF 1", y.block(1, 6), 1);
    }

    /** In VIEW 5 by a certificate of VIEW 4, with PROOF of VIEW 3, two less. */
    static void proposeNotProvedByTwoLess() {
        sentence(4, "PROVED, if PROOF is one less at least (VIEW 1: always)");
        Votes x = Votes.liars(4);
        x.toView(4);
        x.forge(0, 4);
        due("VIEW", x.node(1, 1), 5);
        due("PROOF", x.node(1, 7), 3);
        due("propose(1, 0)", x.propose(1, 0), 2);
        due("PROVED", x.block(2, 6), 0);
    }

    static void proposeOnHigh() {
        sentence(4, "a BLOCK of its VIEW, PARENT and JUSTIFY HIGH");
        Votes x = Votes.liars(4);
        int a = x.forge(0, 1);
        x.propose(2, 17);
        dueRow("block 2", w -> x.block(2, w), 2, a, a, 17, 2, 2, 0, 0);
    }

    static void proposeSentToAll() {
        sentence(4, "TO SEND to all: to NODE 0, 1, .. (itself, too), in order.");
        for (int n = 4; n <= 7; n++) {
            Votes x = new Votes();
            x.nodes(n);
            x.propose(1, 0);
            due("MESSAGES", x.look(4), n);
            for (int i = 0; i < n; i++) dueMessage(x, i, 1, i, 1, 1, NONE);
        }
    }

    static void proposeIntoAFullRow() {
        sentence(4, "One that would be the 201st is LOST (counted; of a send to all each by itself).");
        Votes x = Votes.liars(4);
        x.fill(0, 198);
        due("MESSAGES", x.look(4), 198);
        due("propose(1, 0)", x.propose(1, 0), 1);
        due("MESSAGES", x.look(4), 200);
        due("LOST", x.look(5), 2);
        dueMessage(x, 198, 1, 0, 1, 1, NONE);
        dueMessage(x, 199, 1, 1, 1, 1, NONE);
        due("PROPOSED all the same", x.node(1, 3), 1);
    }

    static void proposeRefused() {
        sentence(4, "NONE if one can't be, or there are 100");
        changesNothing(Votes::busy, x -> {
            for (int i = -1; i <= 4; i++) due("propose(" + i + ", 0)", x.propose(i, 0), NONE);
        });
        changesNothing(Votes::new, x -> {
            due("propose(1, -1)", x.propose(1, -1), NONE);
            due("propose(1, 1000)", x.propose(1, 1000), NONE);
        });
    }

    // ---------------------------------------------------------------- 5: timeout

    static void timeoutOfWhom() {
        sentence(5, "true; false if it can't be");
        Votes x = new Votes();
        for (int i : new int[] {-1, 4, 7, MIN, MAX}) due("timeout(" + i + ")", x.timeout(i), false);
        due("MESSAGES", x.look(4), 0);
        due("timeout(0)", x.timeout(0), true);
        due("timeout(3)", x.timeout(3), true);
    }

    static void timeoutNotSilent() {
        sentence(5, "TO TIME OUT (not silent; VIEW 200 at most)");
        Votes x = new Votes();
        x.mode(2, 1);
        due("silent", x.timeout(2), false);
        due("MESSAGES", x.look(4), 0);
        x.mode(2, 2);
        due("a liar", x.timeout(2), true);
    }

    static void timeoutInView200() {
        sentence(5, "TO TIME OUT (not silent; VIEW 200 at most)");
        Votes x = Votes.liars(4);
        x.toView(200);
        due("timeout(3)", x.timeout(3), true);
        due("TIMED", x.node(3, 4), 200);
        dueMessage(x, 0, 3, 0, 3, 200, 0);
    }

    static void timeoutInView201() {
        sentence(5, "TO TIME OUT (not silent; VIEW 200 at most)");
        Votes x = Votes.liars(4);
        x.toView(201);
        due("VIEW", x.node(3, 1), 201);
        due("it can", x.node(3, 12), 0);
        due("timeout(3)", x.timeout(3), false);
        due("TIMED", x.node(3, 4), 0);
        due("MESSAGES", x.look(4), 0);
    }

    static void timeoutOnceAView() {
        sentence(5, "TIMED is less than VIEW");
        Votes x = new Votes();
        due("VIEW 1", x.timeout(0), true);
        due("again", x.timeout(0), false);
        due("MESSAGES", x.look(4), 4);
        x.timeout(1);
        x.timeout(2);
        x.deliverAll();
        due("VIEW", x.node(0, 1), 2);
        due("VIEW 2", x.timeout(0), true);
        due("TIMED", x.node(0, 4), 2);
        due("again", x.timeout(0), false);
    }

    static void timeoutIsSentWithHigh() {
        sentence(5, "a timeout for VIEW with HIGH is sent to all");
        Votes x = new Votes();
        x.propose(1, 0);
        x.deliverAll();
        x.timeout(2);
        due("MESSAGES", x.look(4), 4);
        for (int i = 0; i < 4; i++) dueMessage(x, i, 2, i, 3, 2, 1);
    }

    static void timeoutTakesTheVote() {
        sentence(5, "TIMED is VIEW, VOTED is VIEW at least");
        Votes x = new Votes();
        x.propose(1, 0);
        x.timeout(0);
        due("VOTED", x.node(0, 2), 1);
        due("TIMED", x.node(0, 4), 1);
        x.deliver(0);
        due("no vote", x.look(15), 0);
        due("no mark", x.pending(2, 2), 0);
        x.deliver(0);
        due("VOTED of 1, which voted", x.node(1, 2), 1);
        x.timeout(1);
        due("VOTED of 1 stays", x.node(1, 2), 1);
    }

    /** Its own VIEW and TIMED are asked, whatever those of NODE 0 are. */
    static void timeoutByItself() {
        sentence(5, "TIMED is less than VIEW");
        Votes x = Votes.liars(4);
        x.timeout(1);
        x.empty();
        x.mode(0, 1);
        for (int i = 1; i <= 3; i++) x.lie(i, 2, 0, 1, 0);
        x.deliverAll();
        due("VIEW of 0", x.node(0, 1), 1);
        due("VIEW of 1", x.node(1, 1), 2);
        due("TIMED of 1", x.node(1, 4), 1);
        due("timeout(1)", x.timeout(1), true);
        x.empty();
        for (int i = 1; i <= 3; i++) x.lie(i, 2, 0, 200, 0);
        x.deliverAll();
        due("VIEW of 1", x.node(1, 1), 201);
        due("timeout(1)", x.timeout(1), false);
        x.mode(0, 0);
        due("timeout(0), in VIEW 1", x.timeout(0), true);
    }

    static void timeoutIntoAFullRow() {
        sentence(5, "One that would be the 201st is LOST (counted; of a send to all each by itself).");
        Votes x = Votes.liars(4);
        x.fill(0, 199);
        due("timeout(3)", x.timeout(3), true);
        due("MESSAGES", x.look(4), 200);
        dueMessage(x, 199, 3, 0, 3, 1, 0);
        due("LOST", x.look(5), 3);
        due("TIMED", x.node(3, 4), 1);
    }

    static void timeoutRefused() {
        sentence(5, "true; false if it can't be");
        changesNothing(Votes::busy, x -> {
            due("timeout(-1)", x.timeout(-1), false);
            due("timeout(3)", x.timeout(3), false);
            due("timeout(4)", x.timeout(4), false);
        });
    }

    // ---------------------------------------------------------------- 6: lie

    static void lieByLiarsAlone() {
        sentence(6, "TO LIE (MODE 2)");
        Votes x = new Votes();
        for (int m = 0; m <= 1; m++) {
            x.mode(1, m);
            due("a BLOCK in MODE " + m, x.lie(1, 1, 0, 1, 0), NONE);
            due("a timeout in MODE " + m, x.lie(1, 2, 0, 1, 0), NONE);
            due("as 3 in MODE " + m, x.lie(1, 3, 0, 1, 0), NONE);
        }
        x.mode(1, 2);
        due("in MODE 2", x.lie(1, 1, 0, 1, 0), 1);
        x.mode(1, 1);
        due("a mark in MODE 1", x.lie(1, 0, 1, 0, 0), NONE);
        x.mode(1, 0);
        due("a mark in MODE 0", x.lie(1, 0, 1, 0, 0), NONE);
        x.mode(1, 2);
        due("a mark in MODE 2", x.lie(1, 0, 1, 0, 0), 0);
    }

    static void lieByWhom() {
        sentence(6, "NONE if one can't be, or there are 100");
        Votes x = Votes.liars(7);
        for (int i : new int[] {-1, 7, 8, MIN, MAX}) due("lie by " + i, x.lie(i, 2, 0, 1, 0), NONE);
        due("MESSAGES", x.look(4), 0);
        due("by 0", x.lie(0, 2, 0, 1, 0), 0);
        due("by 6", x.lie(6, 2, 0, 1, 0), 0);
        dueMessage(x, 13, 6, 6, 3, 1, 0);
    }

    static void lieWhatZeroToThree() {
        sentence(6, "LIE what 0 .. 3");
        Votes x = Votes.liars(4);
        for (int w : new int[] {-1, 4, 5, MIN, MAX}) due("what " + w, x.lie(1, w, 0, 1, 0), NONE);
        due("BLOCKS", x.look(3), 1);
        due("MESSAGES", x.look(4), 0);
        due("what 3", x.lie(1, 3, 0, 1, 0), 1);
        due("what 2", x.lie(1, 2, 0, 1, 0), 0);
        due("what 1", x.lie(1, 1, 0, 1, 0), 2);
        due("what 0", x.lie(1, 0, 2, 1, 0), 0);
    }

    static void lieMarkForWhich() {
        sentence(6, "0: a mark for a BLOCK a (not 0), to LEADER of the VIEW behind a's.");
        Votes x = Votes.liars(4);
        x.lie(1, 1, 0, 5, 0);
        x.lie(2, 1, 0, 2, 0);
        x.empty();
        for (int a : new int[] {MIN, -1, 0, 3, 4, 99, 100, MAX}) due("a mark for " + a, x.lie(3, 0, a, 5, 0), NONE);
        due("MESSAGES", x.look(4), 0);
        due("a mark for 1", x.lie(3, 0, 1, 5, 0), 0);
        due("a mark for 2", x.lie(3, 0, 2, 5, 0), 0);
        dueMessage(x, 0, 3, 2, 2, 1, NONE);
        dueMessage(x, 1, 3, 3, 2, 2, NONE);
    }

    static void lieMarkAsksNoView() {
        sentence(6, "0: BLOCK a (v not asked)");
        Votes x = Votes.liars(4);
        x.lie(1, 1, 0, 1, 0);
        x.empty();
        for (int v : new int[] {MIN, -1, 0, 201, MAX}) {
            due("v " + v, x.lie(3, 0, 1, v, 0), 0);
            due("PAYLOAD " + v, x.lie(3, 0, 1, 0, v), 0);
        }
        due("MESSAGES", x.look(4), 10);
    }

    static void lieMarkBehindTheLastView() {
        sentence(6, "to LEADER of the VIEW behind a's");
        for (int n = 4; n <= 7; n++) {
            Votes x = Votes.liars(n);
            due("a BLOCK of VIEW 200", x.lie(200 % n, 1, 0, 200, 0), 1);
            x.empty();
            due("a mark", x.lie(0, 0, 1, 0, 0), 0);
            dueMessage(x, 0, 0, 201 % n, 2, 1, NONE);
        }
    }

    static void lieBlockAboveItsParent() {
        sentence(6, "1: a BLOCK of VIEW v (above that of a, LEADER of v; 200 at most)");
        Votes x = Votes.liars(4);
        int a = x.forge(0, 5);
        for (int v : new int[] {MIN, -3, 0, 1, 4, 5}) {
            for (int i = 0; i < 4; i++) due("VIEW " + v + " on VIEW 5", x.lie(i, 1, a, v, 0), NONE);
        }
        due("BLOCKS", x.look(3), 2);
        due("VIEW 6", x.lie(2, 1, a, 6, 0), 2);
    }

    static void lieBlockOnBlockZero() {
        sentence(6, "1: a BLOCK of VIEW v (above that of a, LEADER of v; 200 at most)");
        Votes x = Votes.liars(4);
        due("VIEW 0", x.lie(0, 1, 0, 0, 0), NONE);
        due("VIEW -4", x.lie(0, 1, 0, -4, 0), NONE);
        due("VIEW 1", x.lie(1, 1, 0, 1, 0), 1);
    }

    static void lieBlockUpTo200() {
        sentence(6, "1: a BLOCK of VIEW v (above that of a, LEADER of v; 200 at most)");
        for (int n = 4; n <= 7; n++) {
            Votes x = Votes.liars(n);
            due("VIEW 201", x.lie(201 % n, 1, 0, 201, 0), NONE);
            due("VIEW 201 as 3", x.lie(201 % n, 3, 0, 201, 0), NONE);
            due("VIEW MAX", x.lie(MAX % n, 1, 0, MAX, 0), NONE);
            due("VIEW 200", x.lie(200 % n, 1, 0, 200, 0), 1);
            due("VIEW 200 as 3", x.lie(200 % n, 3, 0, 200, 0), 2);
            due("its VIEW", x.block(2, 0), 200);
        }
    }

    static void lieBlockByLeaderAlone() {
        sentence(6, "1: a BLOCK of VIEW v (above that of a, LEADER of v; 200 at most)");
        Votes x = Votes.liars(4);
        for (int i = 0; i < 4; i++) {
            due("as 1 by " + i, x.lie(i, 1, 0, 7, 0) != NONE, i == 3);
            due("as 3 by " + i, x.lie(i, 3, 0, 7, 0) != NONE, i == 3);
        }
    }

    static void lieBlockOnCertifiedAlone() {
        sentence(6, "PARENT and JUSTIFY a CERTIFIED BLOCK a, not PROVED, PAYLOAD told (0 .. 999): sent to all (PROPOSED stays).");
        Votes x = Votes.liars(4);
        x.lie(1, 1, 0, 1, 0);
        x.empty();
        due("not CERTIFIED", x.lie(2, 1, 1, 2, 0), NONE);
        x.certify(1);
        due("CERTIFIED", x.lie(2, 1, 1, 2, 0), 2);
        due("PARENT", x.block(2, 1), 1);
        due("JUSTIFY", x.block(2, 2), 1);
    }

    static void lieBlockOnWhich() {
        sentence(6, "1, 3: BLOCK a, VIEW v");
        Votes x = Votes.liars(4);
        x.forge(0, 1);
        for (int a : new int[] {MIN, -1, 2, 99, 100, MAX}) {
            due("as 1 on " + a, x.lie(3, 1, a, 7, 0), NONE);
            due("as 3 on " + a, x.lie(3, 3, a, 7, 0), NONE);
        }
        due("as 1 on the last", x.lie(3, 1, 1, 7, 0), 2);
        due("as 3 on the last", x.lie(3, 3, 2, 11, 0), 3);
        due("as 1 on the first", x.lie(3, 1, 0, 7, 0), 4);
        due("as 3 on the first", x.lie(3, 3, 0, 7, 0), 5);
    }

    static void lieBlockPayload() {
        sentence(6, "not PROVED, PAYLOAD told (0 .. 999)");
        Votes x = Votes.liars(4);
        for (int what = 1; what <= 3; what += 2) {
            for (int p : new int[] {MIN, -1, 1000, MAX}) due("as " + what + ", PAYLOAD " + p, x.lie(1, what, 0, 1, p), NONE);
        }
        due("BLOCKS", x.look(3), 1);
        for (int what = 1; what <= 3; what += 2) {
            for (int p : new int[] {0, 999}) {
                int b = x.lie(1, what, 0, 1, p);
                due("as " + what + ", its PAYLOAD", x.block(b, 3), p);
            }
        }
        due("BLOCKS", x.look(3), 5);
    }

    static void lieBlockIsNotProved() {
        sentence(6, "not PROVED, PAYLOAD told (0 .. 999)");
        Votes x = Votes.liars(4);
        x.lie(1, 1, 0, 1, 0);
        due("of VIEW 1", x.block(1, 6), 0);
        x.empty();
        x.toView(5);
        x.lie(1, 1, 0, 5, 0);
        due("of VIEW 5 with PROOF 4", x.block(2, 6), 0);
    }

    static void lieBlockLeavesProposed() {
        sentence(6, "sent to all (PROPOSED stays)");
        Votes x = Votes.liars(4);
        x.lie(1, 1, 0, 1, 0);
        x.lie(1, 3, 0, 1, 0);
        due("PROPOSED", x.node(1, 3), 0);
        due("it proposes all the same", x.propose(1, 0), 3);
        due("PROPOSED", x.node(1, 3), 1);
        due("and lies still", x.lie(1, 1, 0, 1, 0), 4);
        for (int i = 0; i < 16; i++) dueMessage(x, i, 1, i % 4, 1, 1 + i / 4, NONE);
    }

    static void lieTimeoutView() {
        sentence(6, "2: a timeout for VIEW v (1 .. 200) with HIGH a CERTIFIED BLOCK a, sent to all.");
        Votes x = Votes.liars(4);
        for (int v : new int[] {MIN, -1, 0, 201, 202, MAX}) due("VIEW " + v, x.lie(3, 2, 0, v, 0), NONE);
        due("MESSAGES", x.look(4), 0);
        due("VIEW 1", x.lie(3, 2, 0, 1, 0), 0);
        due("VIEW 200", x.lie(3, 2, 0, 200, 0), 0);
        for (int i = 0; i < 8; i++) dueMessage(x, i, 3, i % 4, 3, i < 4 ? 1 : 200, 0);
        due("TIMED", x.node(3, 4), 0);
        due("VOTED", x.node(3, 2), 0);
    }

    static void lieTimeoutHigh() {
        sentence(6, "2: a timeout for VIEW v (1 .. 200) with HIGH a CERTIFIED BLOCK a, sent to all.");
        Votes x = Votes.liars(4);
        x.lie(1, 1, 0, 1, 0);
        x.empty();
        for (int a : new int[] {MIN, -1, 1, 2, 100, MAX}) due("HIGH " + a, x.lie(3, 2, a, 5, 0), NONE);
        due("MESSAGES", x.look(4), 0);
        x.certify(1);
        due("HIGH 1, CERTIFIED", x.lie(3, 2, 1, 5, 0), 0);
        dueMessage(x, 0, 3, 0, 3, 5, 1);
    }

    static void lieTimeoutAsksNoPayload() {
        sentence(6, "with a PAYLOAD for 1, 3");
        Votes x = Votes.liars(4);
        for (int p : new int[] {MIN, -1, 1000, MAX}) due("PAYLOAD " + p, x.lie(3, 2, 0, 5, p), 0);
    }

    static void lieAsThree() {
        sentence(6, "3: as 1, but PARENT is a (whatever BLOCK), JUSTIFY is 0.");
        Votes x = Votes.liars(4);
        due("on 0", x.lie(1, 3, 0, 1, 3), 1);
        due("on one not CERTIFIED", x.lie(2, 3, 1, 2, 4), 2);
        dueRow("block 2", w -> x.block(2, w), 2, 1, 0, 4, 2, 2, 0, 0);
        due("its PARENT's VIEW", x.lie(2, 3, 2, 2, 0), NONE);
        due("the VIEW above that", x.lie(3, 3, 2, 3, 0), 3);
        dueMessage(x, 11, 3, 3, 1, 3, NONE);
    }

    static void lieThe100thBlock() {
        sentence(6, "NONE if one can't be, or there are 100");
        for (int what = 1; what <= 3; what += 2) {
            Votes x = Votes.liars(4);
            x.blocksTill(99);
            due("with 99 as " + what, x.lie(1, what, 0, 1, 0), 99);
            x.empty();
            due("with 100 as 1", x.lie(1, 1, 0, 1, 0), NONE);
            due("with 100 as 3", x.lie(1, 3, 0, 1, 0), NONE);
            due("BLOCKS", x.look(3), 100);
            due("MESSAGES", x.look(4), 0);
            due("a mark for the last", x.lie(0, 0, 99, 0, 0), 0);
            due("a timeout", x.lie(0, 2, 0, 1, 0), 0);
            dueMessage(x, 0, 0, 2, 2, 99, NONE);
        }
    }

    static void lieAnswers() {
        sentence(6, "the BLOCK (1, 3), 0 (0, 2); NONE if one can't be, or there are 100");
        Votes x = Votes.liars(4);
        due("what 1", x.lie(1, 1, 0, 1, 0), 1);
        due("what 3", x.lie(1, 3, 0, 1, 0), 2);
        due("what 0", x.lie(1, 0, 2, 0, 0), 0);
        due("what 2", x.lie(1, 2, 0, 7, 0), 0);
        due("what 1", x.lie(1, 1, 0, 1, 0), 3);
        due("MESSAGES", x.look(4), 4 + 4 + 1 + 4 + 4);
    }

    static void lieIntoAFullRow() {
        sentence(6, "One that would be the 201st is LOST (counted; of a send to all each by itself).");
        Votes x = Votes.liars(4);
        x.lie(1, 1, 0, 1, 0);
        x.empty();
        x.fill(0, 199);
        due("a mark, the 200th", x.lie(3, 0, 1, 0, 0), 0);
        due("LOST", x.look(5), 0);
        due("a mark, the 201st", x.lie(3, 0, 1, 0, 0), 0);
        due("LOST", x.look(5), 1);
        due("a BLOCK", x.lie(1, 1, 0, 1, 0), 2);
        due("LOST", x.look(5), 5);
        due("a timeout", x.lie(1, 2, 0, 1, 0), 0);
        due("LOST", x.look(5), 9);
        due("MESSAGES", x.look(4), 200);
        dueMessage(x, 199, 3, 2, 2, 1, NONE);
    }

    static void lieRefused() {
        sentence(6, "NONE if one can't be, or there are 100");
        changesNothing(Votes::busy, x -> {
            for (int what = -1; what <= 4; what++) {
                due("by an honest one", x.lie(0, what, 1, 4, 0), NONE);
                due("by none", x.lie(4, what, 1, 4, 0), NONE);
                due("of a BLOCK that is none", x.lie(3, what, 2, 3, 0), NONE);
            }
            due("on one not CERTIFIED", x.lie(3, 1, 1, 3, 0), NONE);
            due("of a VIEW of another's", x.lie(3, 1, 0, 2, 0), NONE);
            due("of VIEW 203", x.lie(3, 1, 0, 203, 0), NONE);
            due("PAYLOAD 1000", x.lie(3, 3, 0, 3, 1000), NONE);
            due("a timeout for 0", x.lie(3, 2, 0, 0, 0), NONE);
            due("a timeout for 201", x.lie(3, 2, 0, 201, 0), NONE);
            due("a mark for 0", x.lie(3, 0, 0, 3, 0), NONE);
        });
    }

    // ---------------------------------------------------------------- 7: deliver

    static void deliverWhich() {
        sentence(7, "DELIVER k: KIND; NONE if there is none such.");
        Votes x = new Votes();
        x.propose(1, 0);
        for (int k : new int[] {MIN, -1, 4, 5, 200, MAX}) due("deliver(" + k + ") of 4", x.deliver(k), NONE);
        due("MESSAGES", x.look(4), 4);
        due("delivered", x.look(11), 0);
        due("the last", x.deliver(3), 1);
        due("who took it", x.node(3, 2), 1);
        due("the first", x.deliver(0), 1);
        due("who took it", x.node(0, 2), 1);
        due("delivered", x.look(11), 2);
    }

    static void deliverOfNone() {
        sentence(7, "DELIVER k: KIND; NONE if there is none such.");
        Votes x = new Votes();
        for (int k : new int[] {MIN, -1, 0, 1, MAX}) due("deliver(" + k + ") of none", x.deliver(k), NONE);
        due("delivered", x.look(11), 0);
    }

    static void deliverTheLastOne() {
        sentence(7, "DELIVER k: KIND; NONE if there is none such.");
        Votes x = new Votes();
        x.timeout(0);
        for (int i = 0; i < 3; i++) x.drop(0);
        due("deliver(1) of one", x.deliver(1), NONE);
        due("deliver(0) of one", x.deliver(0), 3);
        due("MESSAGES", x.look(4), 0);
        due("deliver(0) of none", x.deliver(0), NONE);
    }

    static void deliverKinds() {
        sentence(7, "DELIVER k: KIND; NONE if there is none such.");
        Votes x = new Votes();
        x.propose(1, 0);
        due("a BLOCK", x.deliver(0), 1);
        x.timeout(0);
        due("a timeout", x.deliver(4), 3);
        due("a mark", x.deliver(3), 2);
    }

    static void deliverTakesItOut() {
        sentence(7, "TO DELIVER the k-th MESSAGE of the row: it is gone from it, and delivered.");
        Votes x = Votes.liars(4);
        for (int v = 1; v <= 3; v++) x.lie(0, 2, 0, v, 0);
        x.deliver(5);
        due("MESSAGES", x.look(4), 11);
        due("ahead of it", x.message(4, 1), 0);
        due("behind it", x.message(5, 1), 2);
        due("the last", x.message(10, 3), 3);
        due("it was delivered", x.timeouts(1, 2), 1);
    }

    /** The row takes 200 again and again, wherever it begins. */
    static void deliverOfAFullRow() {
        sentence(7, "TO DELIVER the k-th MESSAGE of the row: it is gone from it, and delivered.");
        Votes x = Votes.liars(4);
        x.fill(0, 200);
        due("deliver(200)", x.deliver(200), NONE);
        due("deliver(199)", x.deliver(199), 3);
        due("who took it", x.timeouts(3, 150), 1);
        for (int i = 0; i < 151; i++) x.drop(0);
        x.fill(1, 152);
        due("MESSAGES", x.look(4), 200);
        due("LOST", x.look(5), 0);
        due("deliver(200)", x.deliver(200), NONE);
        due("the last's sender", x.message(199, 0), 1);
        due("deliver(199)", x.deliver(199), 3);
        due("deliver(0)", x.deliver(0), 3);
        due("MESSAGES", x.look(4), 198);
    }

    /** A vote's mark has the place of the BLOCK that was taken out, so it is never the 201st. */
    static void deliverVoteInAFullRow() {
        sentence(7, "One that would be the 201st is LOST");
        Votes x = Votes.liars(4);
        x.propose(1, 0);
        x.fill(0, 196);
        due("MESSAGES", x.look(4), 200);
        due("deliver(0)", x.deliver(0), 1);
        due("MESSAGES", x.look(4), 200);
        due("LOST", x.look(5), 0);
        dueMessage(x, 199, 0, 2, 2, 1, NONE);
    }

    static void deliverToSilent() {
        sentence(7, "MESSAGES to it are gone when they are delivered, and count as delivered");
        Votes x = new Votes();
        x.propose(1, 0);
        x.mode(0, 1);
        due("deliver(0)", x.deliver(0), 1);
        due("MESSAGES", x.look(4), 3);
        due("delivered", x.look(11), 1);
        due("no vote", x.node(0, 2), 0);
    }

    /** (a): the same VIEW, another BLOCK, the first that was. */
    static void deliverAnotherOfThatView() {
        sentence(7, "(a) was another BLOCK of that VIEW proposed to it: EVIDENCE against BY of b (KIND 1; both BLOCKS, that one first; of several the first that was)");
        Votes x = Votes.liars(4);
        x.lie(1, 1, 0, 1, 0);
        x.lie(1, 1, 0, 5, 0);
        x.lie(1, 1, 0, 1, 1);
        x.lie(1, 1, 0, 1, 2);
        x.deliver(8);
        due("of one alone there is none", x.look(6), 0);
        x.deliver(4);
        due("of another VIEW there is none", x.look(6), 0);
        x.deliver(0);
        dueRow("evidence 0", w -> x.evidence(0, w), 1, 1, 0, 3, 1);
        int last = x.look(4) - 1;
        while (x.message(last, 2) != 1 || x.message(last, 1) != 0) last--;
        x.deliver(last);
        dueRow("evidence 1", w -> x.evidence(1, w), 1, 1, 0, 3, 4);
        due("BLOCKS that were proposed to it", x.since(0, 4), 4);
        due("lines", x.look(6), 2);
    }

    /** (c) by JUSTIFY: of the VIEW just ahead, not of the one ahead of that. */
    static void deliverFollowsJustify() {
        sentence(7, "JUSTIFY of b has the VIEW ahead, or b is PROVED, or its own PROOF is the VIEW ahead at least");
        Votes x = Votes.liars(4);
        int a = x.forge(0, 1);
        x.lie(3, 1, a, 3, 0);
        x.deliver(0);
        due("two VIEWS behind it", x.node(0, 1), 1);
        due("no vote", x.node(0, 2), 0);
        x.empty();
        x.lie(2, 1, a, 2, 0);
        x.deliver(0);
        due("one VIEW behind it", x.node(0, 1), 2);
        due("a vote", x.node(0, 2), 2);
    }

    static void deliverFollowsProved() {
        sentence(7, "JUSTIFY of b has the VIEW ahead, or b is PROVED, or its own PROOF is the VIEW ahead at least");
        Votes x = Votes.liars(4);
        x.toView(9);
        x.mode(0, 1);
        x.lie(1, 2, 0, 9, 0);
        x.lie(2, 2, 0, 9, 0);
        x.lie(3, 2, 0, 9, 0);
        x.deliverAll();
        x.mode(0, 2);
        due("PROVED, of VIEW 10", x.propose(2, 0), 1);
        due("VIEW of 0, which lags", x.node(0, 1), 9);
        x.deliver(0);
        due("VIEW of 0", x.node(0, 1), 10);
        due("VOTED of 0", x.node(0, 2), 10);
        due("PROOF of 0 stays", x.node(0, 7), 8);
    }

    static void deliverFollowsNoOther() {
        sentence(7, "JUSTIFY of b has the VIEW ahead, or b is PROVED, or its own PROOF is the VIEW ahead at least");
        Votes x = Votes.liars(4);
        x.toView(9);
        x.lie(2, 1, 0, 10, 0);
        x.deliver(0);
        due("its own PROOF is two less", x.node(0, 7), 8);
        due("VIEW of 0", x.node(0, 1), 9);
        due("VOTED of 0", x.node(0, 2), 0);
        x.timeout(1);
        x.deliver(0);
        due("nor does its own timeout for the VIEW ahead", x.node(1, 4), 9);
        due("VIEW of 1", x.node(1, 1), 9);
    }

    static void deliverOfALesserView() {
        sentence(7, "Is VIEW of b above its VIEW");
        Votes x = Votes.liars(4);
        x.toView(6);
        x.lie(1, 1, 0, 5, 0);
        x.deliver(0);
        due("VIEW stays", x.node(0, 1), 6);
        due("no vote", x.node(0, 2), 0);
        due("no EVENT but PROOF's", x.look(15), 4);
    }

    static void deliverVotesOnceAView() {
        sentence(7, "(d) Is VIEW of b its VIEW, above VOTED");
        Votes x = Votes.liars(4);
        x.lie(1, 1, 0, 1, 0);
        x.lie(1, 1, 0, 1, 1);
        x.deliver(0);
        due("VOTED", x.node(0, 2), 1);
        due("one mark", x.pending(2, 2), 1);
        x.deliver(3);
        due("no mark more", x.pending(2, 2), 1);
        due("one EVENT", x.look(15), 1);
    }

    static void deliverParentIsJustify() {
        sentence(7, "PARENT of b its JUSTIFY, and is b SAFE");
        Votes x = Votes.liars(4);
        int a = x.forge(0, 1);
        x.toView(2);
        x.lie(2, 3, a, 2, 0);
        x.lie(2, 1, a, 2, 0);
        int events = x.look(15);
        x.deliver(0);
        due("PARENT is not JUSTIFY: no vote", x.node(0, 2), 0);
        due("nor an EVENT", x.look(15), events);
        x.deliver(3);
        due("PARENT is JUSTIFY", x.node(0, 2), 2);
    }

    /** A BLOCK whose PARENT is certified, but whose JUSTIFY is 0: it brings no certificate and leads nobody on. */
    static void deliverJustifyNotParent() {
        sentence(7, "(b) JUSTIFY of b is LEARNT.");
        Votes x = Votes.liars(4);
        int a = x.forge(0, 1);
        x.lie(2, 3, a, 2, 0);
        x.deliver(0);
        due("HIGH of 0", x.node(0, 5), 0);
        due("VIEW of 0", x.node(0, 1), 1);
        x.empty();
        x.lie(2, 1, a, 2, 0);
        x.deliver(0);
        due("HIGH of 0", x.node(0, 5), a);
        due("VIEW of 0", x.node(0, 1), 2);
    }

    /** Two branches of VIEWS 1, 2, 3, all certified: 2 and 4 on 1, 3 on 2, 5 on 4; NODE 0 has seen 3, then 5. */
    private static Votes branches() {
        Votes x = Votes.liars(4);
        int a = x.forge(0, 1);
        int b = x.forge(a, 2);
        x.forge(b, 3);
        int d = x.forge(a, 2);
        x.forge(d, 3);
        return x;
    }

    static void deliverHighOfTheSameView() {
        sentence(7, "is its VIEW above that of HIGH, HIGH is c");
        Votes x = branches();
        due("CERTIFIED of VIEW 3", x.block(5, 7), 1);
        due("HIGH stays at one VIEW", x.node(0, 5), 3);
        x.forge(5, 4);
        x.ask(0, 1);
        due("HIGH of a VIEW above", x.node(0, 5), 6);
    }

    static void deliverLockOfTheSameView() {
        sentence(7, "d is JUSTIFY of c: is its VIEW above that of LOCK, LOCK is d");
        Votes x = branches();
        due("LOCK stays at one VIEW", x.node(0, 6), 2);
        x.forge(5, 4);
        x.ask(0, 1);
        due("LOCK of a VIEW above", x.node(0, 6), 5);
    }

    static void deliverSafe() {
        sentence(7, "b SAFE (it EXTENDS LOCK, or the VIEW of its JUSTIFY is above that of LOCK)");
        Votes x = branches();
        int events = x.look(15);
        due("VIEW of 0", x.node(0, 1), 4);
        x.lie(0, 1, 4, 4, 0);
        x.deliver(0);
        due("JUSTIFY of LOCK's VIEW: no vote", x.node(0, 2), 0);
        dueRow("the EVENT", w -> x.event(events, w), 1, 0, 6);
        x.empty();
        x.lie(0, 1, 5, 4, 0);
        x.deliver(0);
        due("JUSTIFY of a VIEW above: a vote", x.node(0, 2), 4);
        dueRow("the EVENT", w -> x.event(events + 1, w), 0, 0, 7);

        Votes y = branches();
        y.lie(0, 1, 2, 4, 0);
        y.deliver(0);
        due("on LOCK itself: a vote", y.node(0, 2), 4);
    }

    /** HEIGHTS say nothing of it: LOCK is of VIEW 2 and HEIGHT 2, what is above it of VIEW 9 and HEIGHT 1. */
    static void deliverLockByView() {
        sentence(7, "d is JUSTIFY of c: is its VIEW above that of LOCK, LOCK is d");
        Votes x = Votes.liars(4);
        x.forge(x.forge(x.forge(0, 1), 2), 3);
        due("LOCK of 0", x.node(0, 6), 2);
        int d = x.forge(0, 9);
        x.forge(d, 11);
        due("LOCK of 0, which has counted VIEW 11's marks", x.node(0, 6), d);
        x.lie(1, 2, 3, 50, 0);
        x.deliver(0);
        due("LOCK of 0 stays by one of a lesser VIEW and more HEIGHT", x.node(0, 6), d);
    }

    static void deliverSafeByView() {
        sentence(7, "b SAFE (it EXTENDS LOCK, or the VIEW of its JUSTIFY is above that of LOCK)");
        Votes x = Votes.liars(4);
        x.forge(x.forge(x.forge(0, 1), 2), 3);
        int d = x.forge(0, 9);
        x.toView(12);
        x.lie(0, 1, d, 12, 0);
        x.deliver(0);
        due("LOCK of 0 is of VIEW 2 and HEIGHT 2, JUSTIFY of VIEW 9 and HEIGHT 1", x.node(0, 2), 12);
        Votes y = Votes.liars(4);
        int e = y.forge(0, 9);
        y.forge(e, 11);
        int f = y.forge(y.forge(0, 4), 5);
        due("LOCK of 0", y.node(0, 6), e);
        y.toView(12);
        y.lie(0, 1, f, 12, 0);
        y.deliver(0);
        due("LOCK of 0 is of VIEW 9 and HEIGHT 1, JUSTIFY of VIEW 5 and HEIGHT 2", y.node(0, 2), 0);
    }

    static void deliverCommitsNotBlockZero() {
        sentence(7, "and e is not 0: e IS COMMITTED");
        Votes x = Votes.liars(4);
        x.forge(x.forge(0, 1), 2);
        due("LOG of 3", x.node(3, 8), 1);
        due("EVENTS: QUORUM twice", x.look(15), 2);
        x.forge(2, 3);
        due("LOG of 0", x.node(0, 8), 2);
        due("its last", x.node(0, 9), 1);
    }

    static void deliverCommitsThreeInARow() {
        sentence(7, "VIEW of c one more than that of d, and that one more than that of e");
        Votes x = Votes.liars(4);
        x.forge(x.forge(x.forge(0, 1), 2), 4);
        due("1, 2, 4: LOG of 1", x.node(1, 8), 1);
        Votes y = Votes.liars(4);
        y.forge(y.forge(y.forge(0, 1), 3), 4);
        due("1, 3, 4: LOG of 1", y.node(1, 8), 1);
        Votes z = Votes.liars(4);
        z.forge(z.forge(z.forge(0, 2), 3), 4);
        due("2, 3, 4: LOG of 1", z.node(1, 8), 2);
    }

    static void deliverCommitsByParent() {
        sentence(7, "is PARENT of c d, PARENT of d e");
        Votes x = Votes.liars(4);
        int a = x.forge(0, 1);
        int b = x.lie(2, 3, a, 2, 0);
        x.empty();
        x.certify(b);
        x.forge(b, 3);
        due("a PARENT that is not JUSTIFY: LOG of 0", x.node(0, 8), 1);
        due("LOCK of 0", x.node(0, 6), b);
    }

    static void deliverCommitsWhatLiesBetween() {
        sentence(7, "what lies between, from l on, and e come behind the LOG, in order (nothing, if e is l)");
        Votes x = Votes.liars(4);
        int a = x.forge(0, 1);
        int b = x.forge(a, 3);
        int c = x.forge(b, 4);
        int d = x.forge(c, 5);
        due("3, 4, 5 commit 3: LOG of 2", x.node(2, 8), 3);
        dueRow("log", i -> x.log(2, i), 0, a, b, NONE);
        int events = x.look(15);
        dueRow("first", w -> x.event(events - 2, w), 3, 2, a);
        dueRow("second", w -> x.event(events - 1, w), 3, 2, b);
        x.ask(3, 2);
        x.lie(0, 2, d, 9, 0);
        x.deliver(2);
        due("e is l: LOG of 2", x.node(2, 8), 3);
        due("no EVENT but those of 3", x.look(15), events + 2);
        due("no fork", x.look(8), 0);
    }

    /** What lies between is found by PARENT: BLOCK 2 carries the certificate of 0, not of its PARENT 1. */
    static void deliverCommitsBetweenByParent() {
        sentence(7, "what lies between, from l on, and e come behind the LOG, in order (nothing, if e is l)");
        Votes x = Votes.liars(4);
        x.forge(0, 1);
        x.lie(2, 3, 1, 2, 0);
        x.empty();
        x.certify(2);
        x.forge(x.forge(x.forge(2, 3), 4), 5);
        due("LOG of 2", x.node(2, 8), 4);
        dueRow("log", i -> x.log(2, i), 0, 1, 2, 3, NONE);
    }

    static void deliverCommitsNothingBehind() {
        sentence(7, "else, does l EXTEND e: nothing; else FORKS of the NODE one more");
        Votes x = Votes.liars(4);
        int a = x.forge(0, 1);
        int c = x.forge(x.forge(a, 2), 3);
        int d = x.forge(c, 4);
        due("the last of 1", x.node(1, 9), 2);
        int events = x.look(15);
        x.lie(0, 2, c, 9, 0);
        x.deliver(1);
        due("l EXTENDS e: LOG of 1", x.node(1, 8), 3);
        due("FORKS", x.node(1, 10), 0);
        due("EVENTS", x.look(15), events);
        due("HIGH stays", x.node(1, 5), d);
        x.deliver(0);
        due("NODE 0 has e as l", x.node(0, 9), a);
    }

    static void deliverForks() {
        sentence(7, "else, does l EXTEND e: nothing; else FORKS of the NODE one more");
        Votes x = Votes.liars(4);
        x.forge(x.forge(x.forge(0, 1), 2), 3);
        int e = x.forge(0, 5);
        int c = x.forge(x.forge(e, 6), 7);
        due("the last of 0", x.node(0, 9), 1);
        due("FORKS of 0: it has counted VIEW 7's marks itself", x.node(0, 10), 1);
        int events = x.look(15);
        dueRow("the EVENT", w -> x.event(events - 1, w), 4, 0, e);
        x.lie(1, 2, c, 9, 0);
        x.deliver(0);
        due("once more", x.node(0, 10), 2);
        due("LOG of 0", x.node(0, 8), 2);
        x.deliver(0);
        due("NODE 1 has no other: no fork", x.node(1, 10), 0);
        due("the last of 1", x.node(1, 9), e);
        due("FORKS of all", x.look(8), 2);
    }

    static void deliverMarksOfQuorum() {
        sentence(7, "are there QUORUM for b just now: b is CERTIFIED; b is LEARNT");
        int[] quorum = {3, 4, 5, 5};
        for (int n = 4; n <= 7; n++) {
            Votes x = Votes.liars(n);
            x.lie(1, 1, 0, 1, 0);
            x.empty();
            for (int i = 1; i <= n; i++) {
                x.lie(i - 1, 0, 1, 0, 0);
                x.deliver(0);
                String by = i + " marks of " + n + ": ";
                due(by + "MARKS", x.marks(2, 1), i);
                due(by + "CERTIFIED", x.block(1, 7), i >= quorum[n - 4] ? 1 : 0);
                due(by + "HIGH", x.node(2, 5), i >= quorum[n - 4] ? 1 : 0);
                due(by + "VIEW", x.node(2, 1), i >= quorum[n - 4] ? 2 : 1);
                due(by + "EVENTS", x.look(15), i >= quorum[n - 4] ? 1 : 0);
            }
        }
    }

    static void deliverMarkNotedAlready() {
        sentence(7, "(A mark noted already changes nothing.)");
        Votes x = Votes.liars(4);
        x.lie(1, 1, 0, 1, 0);
        x.lie(1, 1, 0, 1, 1);
        x.empty();
        x.lie(0, 0, 1, 0, 0);
        x.lie(3, 0, 1, 0, 0);
        x.deliverAll();
        for (int i = 0; i < 5; i++) {
            x.lie(0, 0, 1, 0, 0);
            due("deliver(0)", x.deliver(0), 2);
        }
        due("MARKS", x.marks(2, 1), 2);
        due("CERTIFIED", x.block(1, 7), 0);
        x.lie(0, 0, 2, 0, 0);
        x.deliverAll();
        due("a mark for another", x.look(6), 1);
        x.lie(0, 0, 1, 0, 0);
        x.deliverAll();
        due("the first once more: no EVIDENCE by it", x.look(6), 1);
    }

    static void deliverMarkMovesTheView() {
        sentence(7, "is its VIEW not above b's, it is one more than b's");
        int[] views = {1, 2, 3, 4};
        for (int v : views) {
            Votes x = Votes.liars(4);
            x.lie(1, 1, 0, 1, 0);
            x.empty();
            if (v > 1) x.toView(v);
            x.certify(1);
            due("in VIEW " + v + " a BLOCK of VIEW 1", x.node(2, 1), Math.max(v, 2));
        }
        Votes y = Votes.liars(4);
        y.lie(1, 1, 0, 5, 0);
        y.empty();
        y.toView(5);
        y.certify(1);
        due("in VIEW 5 a BLOCK of VIEW 5", y.node(2, 1), 6);
    }

    static void deliverMarkOfView200() {
        sentence(7, "is its VIEW not above b's, it is one more than b's");
        Votes x = Votes.liars(4);
        x.forge(0, 200);
        due("VIEW of 1", x.node(1, 1), 201);
        due("HIGH of 1", x.node(1, 5), 1);
    }

    static void deliverTimeoutsOfQuorum() {
        sentence(7, "are there QUORUM for v just now: PROOF is v, if that is more");
        int[] quorum = {3, 4, 5, 5};
        for (int n = 4; n <= 7; n++) {
            Votes x = Votes.liars(n);
            for (int i = 1; i <= n; i++) {
                x.lie(i - 1, 2, 0, 4, 0);
                x.deliver(0);
                x.empty();
                String by = i + " timeouts of " + n + ": ";
                due(by + "TIMEOUTS", x.timeouts(0, 4), i);
                due(by + "PROOF", x.node(0, 7), i >= quorum[n - 4] ? 4 : 0);
                due(by + "VIEW", x.node(0, 1), i >= quorum[n - 4] ? 5 : 1);
                due(by + "EVENTS", x.look(15), i >= quorum[n - 4] ? 1 : 0);
            }
        }
    }

    static void deliverTimeoutNotedAlready() {
        sentence(7, "HIGH of the MESSAGE is LEARNT (noted already or not)");
        Votes x = Votes.liars(4);
        int a = x.forge(0, 1);
        x.lie(1, 2, 0, 9, 0);
        x.deliver(0);
        x.empty();
        due("HIGH of 0", x.node(0, 5), 0);
        for (int i = 0; i < 3; i++) {
            x.lie(1, 2, a, 9, 0);
            x.deliver(0);
            x.empty();
        }
        due("noted once", x.timeouts(0, 9), 1);
        due("PROOF of 0", x.node(0, 7), 0);
        due("HIGH is LEARNT all the same", x.node(0, 5), a);
    }

    static void deliverTimeoutsForALesserView() {
        sentence(7, "PROOF is v, if that is more; is its VIEW not above v, it is v and 1");
        Votes x = Votes.liars(4);
        x.toView(6);
        due("PROOF", x.node(0, 7), 5);
        int events = x.look(15);
        x.toView(5);
        due("PROOF stays", x.node(0, 7), 5);
        due("VIEW stays", x.node(0, 1), 6);
        due("TIMEOUTS", x.timeouts(0, 4), 3);
        due("no EVENT", x.look(15), events);
        x.toView(7);
        due("PROOF", x.node(0, 7), 6);
        due("VIEW", x.node(0, 1), 7);
    }

    /** VIEW is above v by a certificate, so that PROOF alone is moved. */
    static void deliverTimeoutsBehindTheView() {
        sentence(7, "PROOF is v, if that is more; is its VIEW not above v, it is v and 1");
        Votes x = Votes.liars(4);
        x.forge(0, 5);
        due("VIEW of 2", x.node(2, 1), 6);
        x.toView(6);
        due("VIEW 6 is above 5", x.node(2, 1), 6);
        due("PROOF", x.node(2, 7), 5);
        due("VIEW of 0", x.node(0, 1), 6);
        Votes y = Votes.liars(4);
        y.forge(0, 5);
        y.toView(7);
        due("VIEW 6 is not above 6", y.node(2, 1), 7);
    }

    /** By ASK it has that PROOF already: its own QUORUM of timeouts brings nothing more, no EVENT either. */
    static void deliverTimeoutsOfTheSameProof() {
        sentence(7, "PROOF is v, if that is more; is its VIEW not above v, it is v and 1");
        Votes x = Votes.liars(4);
        x.mode(3, 1);
        x.toView(5);
        x.mode(3, 2);
        x.ask(3, 0);
        due("PROOF of 3", x.node(3, 7), 4);
        int events = x.look(15);
        x.toView(5);
        due("TIMEOUTS of 3", x.timeouts(3, 4), 3);
        due("PROOF of 3", x.node(3, 7), 4);
        due("EVENTS", x.look(15), events);
    }

    static void deliverTimeoutsOfView200() {
        sentence(7, "PROOF is v, if that is more; is its VIEW not above v, it is v and 1");
        Votes x = Votes.liars(4);
        x.toView(201);
        due("PROOF", x.node(0, 7), 200);
        due("VIEW", x.node(0, 1), 201);
    }

    static void deliverRefused() {
        sentence(7, "NONE if there is none such");
        changesNothing(Votes::busy, x -> {
            due("deliver(-1)", x.deliver(-1), NONE);
            due("deliver(8)", x.deliver(8), NONE);
        });
    }

    // ---------------------------------------------------------------- 8: drop

    static void dropWhich() {
        sentence(8, "DROP k: KIND; NONE if there is none such.");
        Votes x = new Votes();
        x.propose(1, 0);
        x.timeout(0);
        for (int k : new int[] {MIN, -1, 8, 9, 200, MAX}) due("drop(" + k + ") of 8", x.drop(k), NONE);
        due("MESSAGES", x.look(4), 8);
        due("the last", x.drop(7), 3);
        due("the first", x.drop(0), 1);
        dueRow("to whom", i -> x.message(i, 1), 1, 2, 3, 0, 1, 2, NO_MESSAGE);
        due("delivered", x.look(11), 0);
        due("LOST", x.look(5), 0);
        due("CUT", x.look(19), 0);
    }

    static void dropOfNone() {
        sentence(8, "DROP k: KIND; NONE if there is none such.");
        Votes x = new Votes();
        for (int k : new int[] {MIN, -1, 0, 1, MAX}) due("drop(" + k + ") of none", x.drop(k), NONE);
        x.timeout(0);
        for (int i = 0; i < 4; i++) due("drop(0)", x.drop(0), 3);
        due("drop(0) of none", x.drop(0), NONE);
    }

    static void dropOfAFullRow() {
        sentence(8, "TO DROP the k-th.");
        Votes x = Votes.liars(4);
        x.fill(0, 200);
        due("drop(200)", x.drop(200), NONE);
        due("drop(199)", x.drop(199), 3);
        due("drop(199) again", x.drop(199), NONE);
        due("drop(0)", x.drop(0), 3);
        due("MESSAGES", x.look(4), 198);
    }

    static void dropRefused() {
        sentence(8, "NONE if there is none such");
        changesNothing(Votes::busy, x -> {
            due("drop(-1)", x.drop(-1), NONE);
            due("drop(8)", x.drop(8), NONE);
        });
    }

    // ---------------------------------------------------------------- 9: lose

    static void loseOfWhom() {
        sentence(9, "LOSE: how many were gone; NONE if there is no such NODE.");
        for (int n = 4; n <= 7; n++) {
            Votes x = new Votes();
            x.nodes(n);
            x.timeout(0);
            for (int i : new int[] {MIN, -1, n, n + 1, MAX}) due("lose(" + i + ") of " + n, x.lose(i), NONE);
            due("MESSAGES", x.look(4), n);
            due("of the last", x.lose(n - 1), 1);
            due("of the first", x.lose(0), 1);
            due("MESSAGES", x.look(4), n - 2);
        }
    }

    static void loseOfNone() {
        sentence(9, "LOSE: how many were gone; NONE if there is no such NODE.");
        Votes x = new Votes();
        due("in an empty row", x.lose(0), 0);
        x.timeout(0);
        due("one", x.lose(2), 1);
        due("none is left to it", x.lose(2), 0);
    }

    static void loseWhateverElse() {
        sentence(9, "TO LOSE all to a NODE (whatever else).");
        Votes x = Votes.liars(4);
        x.propose(1, 0);
        x.lie(0, 0, 1, 0, 0);
        x.lie(3, 2, 0, 9, 0);
        x.mode(2, 1);
        due("of each KIND, to a silent one", x.lose(2), 3);
        dueRow("to whom", i -> x.message(i, 1), 0, 1, 3, 0, 1, 3, NO_MESSAGE);
        due("LOST", x.look(5), 0);
        due("delivered", x.look(11), 0);
    }

    static void loseOfAFullRow() {
        sentence(9, "TO LOSE all to a NODE (whatever else).");
        Votes x = Votes.liars(4);
        x.fill(0, 200);
        due("lose(3)", x.lose(3), 50);
        due("MESSAGES", x.look(4), 150);
        dueRow("to whom", i -> x.message(i, 1), 0, 1, 2, 0, 1, 2);
        due("the last", x.message(149, 1), 2);
    }

    static void loseRefused() {
        sentence(9, "NONE if there is no such NODE");
        changesNothing(Votes::busy, x -> {
            due("lose(-1)", x.lose(-1), NONE);
            due("lose(4)", x.lose(4), NONE);
        });
    }

    // ---------------------------------------------------------------- 10: leaders

    static void leadersZeroToTwo() {
        sentence(10, "LEADER of VIEW v by a RULE (0 at first");
        Votes x = new Votes();
        due("at first", x.look(16), 0);
        for (int r : new int[] {MIN, -1, 3, 4, MAX}) {
            due("leaders(" + r + ")", x.leaders(r), NONE);
            due("the RULE", x.look(16), 0);
        }
        due("leaders(2)", x.leaders(2), 0);
        due("leaders(1)", x.leaders(1), 2);
        due("leaders(1) again", x.leaders(1), 1);
        due("leaders(0)", x.leaders(0), 1);
        due("leaders(3)", x.leaders(3), NONE);
        due("the RULE", x.look(16), 0);
    }

    static void leadersNotWithOneMessage() {
        sentence(10, "told while there is no message and no BLOCK but 0");
        Votes x = new Votes();
        x.timeout(0);
        for (int i = 0; i < 3; i++) x.drop(0);
        due("MESSAGES", x.look(4), 1);
        for (int r = 0; r <= 2; r++) due("leaders(" + r + ")", x.leaders(r), NONE);
        due("the RULE", x.look(16), 0);
        x.drop(0);
        due("with none", x.leaders(2), 0);
        due("the RULE", x.look(16), 2);
    }

    static void leadersNotWithABlock() {
        sentence(10, "NONE if one can't be, or not now");
        Votes x = new Votes();
        x.leaders(2);
        x.propose(1, 0);
        x.empty();
        due("MESSAGES", x.look(4), 0);
        for (int r = 0; r <= 2; r++) due("leaders(" + r + ")", x.leaders(r), NONE);
        due("the RULE", x.look(16), 2);
    }

    /** Who can make a BLOCK of a VIEW by a lie is its LEADER. */
    private static int leaderOf(Votes x, int n, int view) {
        int leader = NONE;
        for (int i = 0; i < n; i++) {
            if (x.lie(i, 1, 0, view, 0) != NONE) leader = leader == NONE ? i : MAX;
        }
        return leader;
    }

    static void leadersWrapAround() {
        sentence(10, "0: v modulo n; 1: v by 2, modulo n; 2: v times v, modulo n");
        for (int n = 4; n <= 7; n++) {
            for (int rule = 0; rule <= 2; rule++) {
                Votes x = Votes.liars(n);
                x.leaders(rule);
                for (int v : new int[] {1, 2, n - 1, n, n + 1, 2 * n - 1, 2 * n, 2 * n + 1, 199, 200}) {
                    int due = rule == 0 ? v % n : rule == 1 ? v / 2 % n : v * v % n;
                    due("LEADER of " + v + " of " + n + " by " + rule, leaderOf(x, n, v), due);
                }
            }
        }
    }

    static void leadersOfView201() {
        sentence(10, "0: v modulo n; 1: v by 2, modulo n; 2: v times v, modulo n");
        for (int n = 4; n <= 7; n++) {
            for (int rule = 0; rule <= 2; rule++) {
                Votes x = Votes.liars(n);
                x.leaders(rule);
                leaderOf(x, n, 200);
                x.empty();
                x.lie(0, 0, 1, 0, 0);
                due("where a mark goes", x.message(0, 1), rule == 0 ? 201 % n : rule == 1 ? 100 % n : 40401 % n);
            }
        }
    }

    static void leadersRefused() {
        sentence(10, "NONE if one can't be, or not now");
        changesNothing(Votes::busy, x -> {
            for (int r = -1; r <= 3; r++) due("leaders(" + r + ")", x.leaders(r), NONE);
        });
    }

    // ---------------------------------------------------------------- 11: cut

    static void cutOfWhom() {
        sentence(11, "false if there is none such, or they are alike");
        for (int n = 4; n <= 7; n++) {
            Votes x = new Votes();
            x.nodes(n);
            for (int i : new int[] {MIN, -1, n, MAX}) {
                due("cut(" + i + ", 0)", x.cut(i, 0, true), false);
                due("cut(0, " + i + ")", x.cut(0, i, true), false);
                due("cut(" + i + ", " + i + ")", x.cut(i, i, true), false);
            }
            for (int i = 0; i < n; i++) {
                due("alike", x.cut(i, i, true), false);
                due("alike, not cut", x.cut(i, i, false), false);
            }
            due("couples", x.look(20), 0);
            due("first and last", x.cut(0, n - 1, true), true);
            due("couples", x.look(20), 1);
        }
    }

    static void cutTwice() {
        sentence(11, "Two NODES are CUT (true), or not: true");
        Votes x = new Votes();
        due("mended though whole", x.cut(1, 2, false), true);
        due("couples", x.look(20), 0);
        due("cut", x.cut(1, 2, true), true);
        due("cut again", x.cut(1, 2, true), true);
        due("cut about", x.cut(2, 1, true), true);
        due("couples", x.look(20), 1);
        due("mended about", x.cut(2, 1, false), true);
        due("couples", x.look(20), 0);
        due("reach(1)", x.reach(1), 15);
        due("reach(2)", x.reach(2), 15);
    }

    static void cutOfAll() {
        sentence(11, "Two unlike NODES can be CUT from one another (not at first; told)");
        Votes x = new Votes();
        x.nodes(7);
        for (int i = 0; i < 7; i++) for (int j = 0; j < i; j++) due("cut", x.cut(i, j, true), true);
        due("couples", x.look(20), 21);
        x.timeout(3);
        due("itself alone is sent one", x.look(4), 1);
        dueMessage(x, 0, 3, 3, 3, 1, 0);
        due("CUT", x.look(19), 6);
    }

    static void cutGoneAtOnce() {
        sentence(11, "what one of them sends the other then (in lies, too) is gone at once (each MESSAGE counted as CUT, not as LOST; TO ASK goes all the same)");
        Votes x = new Votes();
        x.mode(3, 2);
        x.cut(1, 3, true);
        x.propose(1, 0);
        due("a BLOCK: MESSAGES", x.look(4), 3);
        due("CUT", x.look(19), 1);
        x.lie(3, 2, 0, 1, 0);
        due("a lie, the other way: MESSAGES", x.look(4), 6);
        due("CUT", x.look(19), 2);
        x.cut(0, 2, true);
        x.deliver(0);
        due("a vote of 0 for 2: MESSAGES", x.look(4), 5);
        due("VOTED all the same", x.node(0, 2), 1);
        due("CUT", x.look(19), 3);
        x.cut(3, 2, true);
        due("a lie of a mark", x.lie(3, 0, 1, 0, 0), 0);
        due("a lie of a BLOCK", x.lie(3, 1, 0, 3, 0), 2);
        due("CUT", x.look(19), 6);
        due("MESSAGES", x.look(4), 7);
        due("LOST", x.look(5), 0);
        due("a timeout of 0", x.timeout(0), true);
        due("CUT", x.look(19), 7);
    }

    static void cutWhatWasSentComes() {
        sentence(11, "what one of them sends the other then (in lies, too) is gone at once");
        Votes x = new Votes();
        x.propose(1, 0);
        x.cut(1, 0, true);
        due("MESSAGES", x.look(4), 4);
        due("sent ahead of it", x.deliver(0), 1);
        due("VOTED", x.node(0, 2), 1);
        due("CUT", x.look(19), 0);
    }

    static void cutOfSilentOnes() {
        sentence(11, "Two NODES are CUT (true), or not: true");
        Votes x = new Votes();
        x.mode(0, 1);
        x.mode(1, 1);
        due("cut(0, 2)", x.cut(0, 2, true), true);
        due("cut(2, 1)", x.cut(2, 1, true), true);
        due("cut(0, 1)", x.cut(0, 1, true), true);
        due("couples", x.look(20), 3);
    }

    static void cutMended() {
        sentence(11, "Two NODES are CUT (true), or not: true");
        Votes x = new Votes();
        x.cut(0, 1, true);
        x.cut(0, 1, false);
        x.timeout(0);
        due("MESSAGES", x.look(4), 4);
        due("CUT", x.look(19), 0);
    }

    static void cutInAFullRow() {
        sentence(11, "each MESSAGE counted as CUT, not as LOST");
        Votes x = Votes.liars(4);
        x.fill(2, 200);
        x.cut(0, 1, true);
        x.cut(0, 3, true);
        x.timeout(0);
        due("LOST", x.look(5), 2);
        due("CUT", x.look(19), 2);
        due("MESSAGES", x.look(4), 200);
    }

    static void cutAsksAllTheSame() {
        sentence(11, "TO ASK goes all the same");
        Votes x = new Votes();
        x.propose(1, 0);
        x.deliverAll();
        x.cut(0, 2, true);
        due("ask(0, 2)", x.ask(0, 2), true);
        due("HIGH of 0", x.node(0, 5), 1);
        due("CUT", x.look(19), 0);
    }

    static void cutRefused() {
        sentence(11, "false if there is none such, or they are alike");
        changesNothing(Votes::busy, x -> {
            due("cut(0, 4)", x.cut(0, 4, true), false);
            due("cut(-1, 0)", x.cut(-1, 0, false), false);
            due("cut(3, 3)", x.cut(3, 3, false), false);
        });
    }

    // ---------------------------------------------------------------- 12: reach

    static void reachOfWhom() {
        sentence(12, "(a set); NONE if there is none such");
        for (int n = 4; n <= 7; n++) {
            Votes x = new Votes();
            x.nodes(n);
            for (int i : new int[] {MIN, -1, n, n + 1, MAX}) due("reach(" + i + ") of " + n, x.reach(i), NONE);
            due("of the first", x.reach(0), (1 << n) - 1);
            due("of the last", x.reach(n - 1), (1 << n) - 1);
        }
    }

    static void reachItselfAlone() {
        sentence(12, "To which NODES, itself, too, one can send by itself (a set)");
        Votes x = new Votes();
        x.nodes(7);
        int set = 127;
        for (int i = 0; i < 6; i++) {
            x.cut(6, i, true);
            set -= 1 << i;
            due("reach(6) without " + i, x.reach(6), set);
            due("reach(" + i + ")", x.reach(i), 63);
        }
        due("itself alone", x.reach(6), 64);
    }

    static void reachByItself() {
        sentence(12, "To which NODES, itself, too, one can send by itself (a set)");
        Votes x = new Votes();
        x.cut(0, 1, true);
        due("not through 2", x.reach(0), 13);
        due("nor from the other", x.reach(1), 14);
        x.mode(3, 1);
        x.mode(0, 1);
        due("to a silent one", x.reach(2), 15);
        due("from a silent one", x.reach(0), 13);
    }

    // ---------------------------------------------------------------- 13: since

    static void sinceOfWhom() {
        sentence(13, "NONE - 99999 if there is none such, or another what");
        for (int n = 4; n <= 7; n++) {
            Votes x = new Votes();
            x.nodes(n);
            for (int i : new int[] {MIN, -1, n, MAX}) {
                for (int w = 0; w <= 6; w++) due("since(" + i + ", " + w + ") of " + n, x.since(i, w), NO_NUMBER);
            }
            due("of the last", x.since(n - 1, 0), 1);
        }
    }

    static void sinceWhat() {
        sentence(13, "NONE - 99999 if there is none such, or another what");
        Votes x = new Votes();
        for (int w : new int[] {MIN, -1, 7, 8, MAX}) due("since(0, " + w + ")", x.since(0, w), NO_NUMBER);
        dueRow("since 0", w -> x.since(0, w), 1, 0, 1, 1, 0, 0, 0, NO_NUMBER);
    }

    /** Both differences can be below 0: a NODE that has stayed behind, and a certificate of a shorter branch. */
    static void sinceBelowZero() {
        sentence(13, "Of a NODE what 0 its VIEW less that of the last of its LOG, 1 the HEIGHT of HIGH less that of the last of its LOG");
        Votes x = Votes.liars(4);
        int c = x.forge(x.forge(x.forge(0, 5), 6), 7);
        x.lie(0, 2, c, 9, 0);
        x.deliver(3);
        due("the last of 3", x.node(3, 9), 1);
        due("VIEW of 3: BLOCK 2's marks brought it to 7", x.node(3, 1), 7);
        x.deliver(1);
        due("VIEW of 1", x.node(1, 1), 1);
        due("since(1, 0)", x.since(1, 0), 1 - 5);
        due("since(1, 1)", x.since(1, 1), 2);
        int d = x.forge(c, 8);
        x.lie(0, 2, d, 9, 0);
        x.deliverAll();
        due("the last of 1", x.node(1, 9), 2);
        int e = x.forge(0, 20);
        due("HIGH of 1", x.node(1, 5), e);
        due("since(1, 1): HEIGHT 1 less 2", x.since(1, 1), -1);
    }

    static void sinceHighAndLock() {
        sentence(13, "2 whether HIGH EXTENDS LOCK, 3 whether LOCK EXTENDS the last of its LOG (1, 0)");
        Votes x = Votes.liars(4);
        x.forge(x.forge(x.forge(0, 1), 2), 3);
        due("HIGH EXTENDS LOCK", x.since(0, 2), 1);
        due("LOCK EXTENDS the last", x.since(0, 3), 1);
        int e = x.forge(0, 9);
        x.lie(1, 2, e, 30, 0);
        x.deliver(0);
        due("HIGH of 0", x.node(0, 5), e);
        due("HIGH does not EXTEND LOCK", x.since(0, 2), 0);
        due("LOCK EXTENDS the last", x.since(0, 3), 1);
        x.empty();
        int f = x.forge(e, 11);
        x.lie(1, 2, f, 30, 0);
        x.deliver(0);
        due("LOCK of 0", x.node(0, 6), e);
        due("HIGH EXTENDS LOCK", x.since(0, 2), 1);
        due("LOCK does not EXTEND the last", x.since(0, 3), 0);
    }

    static void sinceCounts() {
        sentence(13, "4 how many BLOCKS were proposed to it, 5 for how many VIEWS it has TIMEOUTS, 6 for how many BLOCKS MARKS");
        Votes x = Votes.liars(4);
        x.lie(1, 1, 0, 1, 0);
        x.lie(1, 1, 0, 1, 0);
        x.lie(0, 2, 0, 1, 0);
        x.lie(1, 2, 0, 1, 0);
        x.lie(0, 2, 0, 200, 0);
        x.deliverAll();
        x.lie(0, 0, 2, 0, 0);
        x.deliverAll();
        due("BLOCKS proposed to 2", x.since(2, 4), 2);
        due("VIEWS of TIMEOUTS", x.since(2, 5), 2);
        due("BLOCKS of MARKS", x.since(2, 6), 2);
        due("of another NODE", x.since(1, 6), 0);
    }

    static void sinceOf99Blocks() {
        sentence(13, "4 how many BLOCKS were proposed to it");
        Votes x = Votes.liars(4);
        x.cut(1, 0, true);
        x.cut(1, 2, true);
        x.cut(3, 2, true);
        for (int b = 1; b < 100; b++) {
            x.lie(1, 1, 0, 1, 0);
            x.deliver(1);
            x.drop(0);
        }
        due("BLOCKS proposed to 3", x.since(3, 4), 99);
        due("MESSAGES", x.look(4), 0);
    }

    static void sinceOf200Views() {
        sentence(13, "5 for how many VIEWS it has TIMEOUTS");
        Votes x = Votes.liars(4);
        for (int i = 1; i < 4; i++) x.cut(0, i, true);
        for (int v = 1; v <= 200; v++) {
            x.lie(0, 2, 0, v, 0);
            x.deliver(0);
        }
        due("VIEWS of TIMEOUTS", x.since(0, 5), 200);
        due("for VIEW 1", x.timeouts(0, 1), 1);
        due("for VIEW 200", x.timeouts(0, 200), 1);
    }

    static void sinceOf99Marks() {
        sentence(13, "6 for how many BLOCKS MARKS");
        Votes x = Votes.liars(4);
        x.blocksTill(100);
        for (int b = 1; b < 100; b++) {
            x.lie(0, 0, b, 0, 0);
            x.deliver(0);
        }
        due("BLOCKS of MARKS", x.since(2, 6), 99);
        due("for the last", x.markers(2, 99), 1);
    }

    // ---------------------------------------------------------------- 14: state

    static void stateOfAnyInt() {
        sentence(14, "STATE is told: what it was.");
        Votes x = new Votes();
        int before = 0;
        for (int v : new int[] {MIN, MAX, -1, 1, 0, 1 << 24, MIN}) {
            due("state(" + v + ")", x.state(v), before);
            due("look(14)", x.look(14), v);
            before = v;
        }
    }

    static void stateIsNotDrawn() {
        sentence(14, "STATE is told: what it was.");
        Votes x = Votes.busy();
        x.calm(3);
        x.soon();
        x.image(true);
        due("nothing but a STORM draws", x.state(5), 12345);
    }

    // ---------------------------------------------------------------- 15: ask

    static void askOfWhom() {
        sentence(15, "false if one can't be (alike, silent)");
        for (int n = 4; n <= 7; n++) {
            Votes x = new Votes();
            x.nodes(n);
            for (int i : new int[] {MIN, -1, n, MAX}) {
                due("ask(" + i + ", 0)", x.ask(i, 0), false);
                due("ask(0, " + i + ")", x.ask(0, i), false);
                due("ask(" + i + ", " + i + ")", x.ask(i, i), false);
            }
            for (int i = 0; i < n; i++) due("alike", x.ask(i, i), false);
            due("the first asks the last", x.ask(0, n - 1), true);
            due("the last asks the first", x.ask(n - 1, 0), true);
        }
    }

    static void askNeitherSilent() {
        sentence(15, "TO ASK: a NODE asks another one (neither silent)");
        Votes x = new Votes();
        x.propose(1, 0);
        x.deliverAll();
        x.mode(2, 1);
        due("a silent one is asked", x.ask(0, 2), false);
        due("HIGH of 0", x.node(0, 5), 0);
        x.mode(2, 2);
        x.mode(0, 1);
        due("a silent one asks", x.ask(0, 2), false);
        due("HIGH of 0", x.node(0, 5), 0);
        x.mode(0, 2);
        due("a liar asks a liar", x.ask(0, 2), true);
        due("HIGH of 0", x.node(0, 5), 1);
    }

    static void askLearnsHigh() {
        sentence(15, "HIGH of that one is LEARNT");
        Votes x = Votes.liars(4);
        x.forge(x.forge(x.forge(0, 1), 2), 3);
        int events = x.look(15);
        x.ask(1, 0);
        dueRow("node 1", w -> x.node(1, w), 2, 4, 0, 0, 0, 3, 2, 0, 2, 1, 0, 0, 1);
        due("EVENTS: a commit", x.look(15), events + 1);
        dueRow("the EVENT", w -> x.event(events, w), 3, 1, 1);
        due("the one that was asked", x.node(0, 5), 3);
    }

    static void askProofIfMore() {
        sentence(15, "PROOF is that one's, if it is more (no EVENT of it)");
        Votes x = Votes.liars(4);
        x.mode(3, 1);
        x.toView(5);
        x.mode(3, 2);
        int events = x.look(15);
        due("ask(3, 0)", x.ask(3, 0), true);
        due("PROOF of 3", x.node(3, 7), 4);
        due("VIEW of 3", x.node(3, 1), 5);
        due("no EVENT", x.look(15), events);
        due("no TIMEOUTS", x.timeouts(3, 4), 0);
        x.mode(0, 1);
        for (int i = 1; i <= 3; i++) x.lie(i, 2, 0, 8, 0);
        x.deliverAll();
        x.mode(0, 2);
        due("PROOF of 0", x.node(0, 7), 4);
        due("ask(3, 0)", x.ask(3, 0), true);
        due("PROOF of 3 is more", x.node(3, 7), 8);
        due("VIEW of 3", x.node(3, 1), 9);
    }

    static void askViewAtLeast() {
        sentence(15, "VIEW is PROOF and 1, and VIEW of HIGH and 1, at least");
        Votes x = Votes.liars(4);
        x.forge(0, 5);
        x.ask(1, 2);
        due("by HIGH", x.node(1, 1), 6);
        Votes y = Votes.liars(4);
        y.toView(9);
        y.forge(0, 1);
        y.ask(1, 2);
        due("stays above", y.node(1, 1), 9);
        Votes z = Votes.liars(4);
        z.forge(0, 1);
        z.lie(0, 2, 1, 9, 0);
        z.deliver(3);
        due("HIGH of 3", z.node(3, 5), 1);
        due("VIEW of 3", z.node(3, 1), 1);
        due("ask(3, 0)", z.ask(3, 0), true);
        due("its own HIGH moves it", z.node(3, 1), 2);
    }

    static void askOfTheLastViews() {
        sentence(15, "VIEW is PROOF and 1, and VIEW of HIGH and 1, at least");
        Votes x = Votes.liars(4);
        x.forge(0, 200);
        x.ask(3, 1);
        due("by HIGH of VIEW 200", x.node(3, 1), 201);
        Votes y = Votes.liars(4);
        y.mode(3, 1);
        y.toView(201);
        y.mode(3, 2);
        y.ask(3, 1);
        due("by PROOF 200", y.node(3, 1), 201);
    }

    static void askRefused() {
        sentence(15, "false if one can't be (alike, silent)");
        changesNothing(Votes::busy, x -> {
            due("ask(1, 1)", x.ask(1, 1), false);
            due("ask(4, 1)", x.ask(4, 1), false);
            due("ask(1, -1)", x.ask(1, -1), false);
        });
    }

    // ---------------------------------------------------------------- 16: storm

    private static int drawn(int state) {
        return 1664525 * state + 1013904223;
    }

    /** The highest 24 bits of a STATE, without sign, modulo m. */
    private static int among(int state, int m) {
        return (int) ((state & 0xffffffffL) / 256 % m);
    }

    static void stormOneToForty() {
        sentence(16, "STORM (n 1 .. 40, d 0 .. 9)");
        for (int n : new int[] {MIN, -1, 0, 41, 42, MAX}) {
            Votes x = Votes.liars(4);
            x.fill(0, 44);
            due("storm(" + n + ", 0)", x.storm(n, 0), NONE);
            due("MESSAGES", x.look(4), 44);
            due("STATE", x.look(14), 0);
        }
        for (int n : new int[] {1, 2, 39, 40}) {
            Votes x = Votes.liars(4);
            x.fill(0, 44);
            due("storm(" + n + ", 0)", x.storm(n, 0), n);
            due("MESSAGES", x.look(4), 44 - n);
            due("delivered", x.look(11), n);
        }
    }

    static void stormZeroToNine() {
        sentence(16, "STORM (n 1 .. 40, d 0 .. 9)");
        for (int d : new int[] {MIN, -1, 10, 11, MAX}) {
            Votes x = Votes.liars(4);
            x.fill(0, 44);
            due("storm(40, " + d + ")", x.storm(40, d), NONE);
            due("MESSAGES", x.look(4), 44);
            due("STATE", x.look(14), 0);
        }
        for (int d = 0; d <= 9; d++) {
            Votes x = Votes.liars(4);
            x.fill(0, 44);
            int state = 0;
            int due = 0;
            for (int i = 0; i < 40; i++) {
                state = drawn(drawn(state));
                due += among(state, 10) < d ? 0 : 1;
            }
            due("storm(40, " + d + ")", x.storm(40, d), due);
            due("delivered", x.look(11), due);
            due("MESSAGES", x.look(4), 4);
            due("STATE", x.look(14), state);
        }
    }

    static void stormOfNone() {
        sentence(16, "n times, as long as there are MESSAGES");
        Votes x = new Votes();
        x.state(99);
        due("in an empty row", x.storm(40, 0), 0);
        due("STATE", x.look(14), 99);
        x.timeout(0);
        due("of four", x.storm(40, 0), 4);
        int state = 99;
        for (int i = 0; i < 8; i++) state = drawn(state);
        due("STATE: two DRAWS for each", x.look(14), state);
        due("MESSAGES", x.look(4), 0);
    }

    static void stormOfWhatComesMeanwhile() {
        sentence(16, "n times, as long as there are MESSAGES");
        Votes x = new Votes();
        x.propose(1, 0);
        due("four BLOCKS and their marks", x.storm(40, 0), 8);
        due("MESSAGES", x.look(4), 0);
    }

    /** Which one is taken out, by the MESSAGES that are left: four to each, told apart by their VIEWS. */
    static void stormDraws() {
        sentence(16, "it becomes 1664525 times itself + 1013904223 (ints, which wrap), then it is its highest 24 bits (without sign) modulo m");
        for (int seed : new int[] {0, 1, -1, 255, 256, MAX, MIN, 123456789, -123456789, 0x7fffff00, 0x80000100}) {
            for (int d : new int[] {0, 5, 9}) {
                Votes x = Votes.liars(4);
                for (int v = 1; v <= 3; v++) x.lie(0, 2, 0, v, 0);
                x.state(seed);
                int one = drawn(seed);
                int two = drawn(one);
                int k = among(one, 12);
                boolean isDropped = among(two, 10) < d;
                due("storm(1, " + d + ") from " + seed, x.storm(1, d), isDropped ? 0 : 1);
                due("STATE", x.look(14), two);
                due("delivered", x.look(11), isDropped ? 0 : 1);
                due("noted", x.timeouts(k % 4, 1 + k / 4), isDropped ? 0 : 1);
                int left = 0;
                for (int i = 0; i < 11; i++) {
                    if (left == k) left++;
                    due("what is left, VIEW", x.message(i, 3), 1 + left / 4);
                    due("what is left, TO", x.message(i, 1), left % 4);
                    left++;
                }
            }
        }
    }

    /** The second DRAW is made for d 0 as well; a DRAW of just d is delivered, one of a number below it is not. */
    static void stormBelowD() {
        sentence(16, "a DRAW of how many there are: that one is taken out; a DRAW of 10 (d 0, too): below d it is dropped, else delivered");
        for (int seed = 0; seed < 30; seed++) {
            int second = drawn(drawn(seed));
            int luck = among(second, 10);
            for (int d : new int[] {0, luck, Math.min(luck + 1, 9)}) {
                Votes x = new Votes();
                x.timeout(0);
                x.state(seed);
                due("storm(1, " + d + ") by a DRAW of " + luck, x.storm(1, d), luck < d ? 0 : 1);
                due("STATE", x.look(14), second);
                due("MESSAGES", x.look(4), 3);
            }
        }
    }

    static void stormToSilent() {
        sentence(16, "how many were delivered; NONE if one can't be");
        Votes x = new Votes();
        x.timeout(0);
        for (int i = 0; i < 4; i++) x.mode(i, 1);
        due("to silent ones", x.storm(40, 0), 4);
        due("delivered", x.look(11), 4);
        due("noted by none", x.timeouts(1, 1), 0);
    }

    static void stormRefused() {
        sentence(16, "how many were delivered; NONE if one can't be");
        changesNothing(Votes::busy, x -> {
            due("storm(0, 0)", x.storm(0, 0), NONE);
            due("storm(41, 0)", x.storm(41, 0), NONE);
            due("storm(1, -1)", x.storm(1, -1), NONE);
            due("storm(1, 10)", x.storm(1, 10), NONE);
        });
    }

    // ---------------------------------------------------------------- 17: turn

    static void turnOfNone() {
        sentence(17, "TURN m (0 .. how many there are): true; false if one can't be.");
        Votes x = new Votes();
        due("turn(0)", x.turn(0), true);
        for (int m : new int[] {MIN, -1, 1, MAX}) due("turn(" + m + ")", x.turn(m), false);
        due("MESSAGES", x.look(4), 0);
    }

    static void turnUpToAll() {
        sentence(17, "TURN m (0 .. how many there are): true; false if one can't be.");
        for (int m = -1; m <= 5; m++) {
            Votes x = new Votes();
            x.timeout(0);
            due("turn(" + m + ") of 4", x.turn(m), m >= 0 && m <= 4);
            int[][] due = {{0, 1, 2, 3}, {1, 2, 3, 0}, {2, 3, 1, 0}, {3, 2, 1, 0}, {3, 2, 1, 0}};
            for (int i = 0; i < 4; i++) due("TO", x.message(i, 1), due[m < 0 || m > 4 ? 0 : m][i]);
            due("MESSAGES", x.look(4), 4);
        }
    }

    static void turnOfAFullRow() {
        sentence(17, "the first m come behind all others, the last of them first");
        Votes x = Votes.liars(4);
        x.fill(0, 100);
        for (int i = 0; i < 98; i++) x.drop(0);
        x.fill(1, 196);
        x.drop(0);
        x.lie(3, 2, 0, 1, 0);
        due("MESSAGES", x.look(4), 200);
        due("turn(201)", x.turn(201), false);
        due("turn(200)", x.turn(200), true);
        due("the first", x.message(0, 0), 3);
        due("its TO", x.message(0, 1), 2);
        due("the last", x.message(199, 0), 0);
        due("turn(199)", x.turn(199), true);
        due("the first was the last", x.message(0, 0), 0);
        due("the last was the first", x.message(199, 0), 3);
        due("behind the first", x.message(1, 1), 0);
        due("LOST", x.look(5), 1);
    }

    static void turnRefused() {
        sentence(17, "true; false if one can't be");
        changesNothing(Votes::busy, x -> {
            due("turn(-1)", x.turn(-1), false);
            due("turn(9)", x.turn(9), false);
            due("turn(0)", x.turn(0), true);
        });
    }

    // ---------------------------------------------------------------- 18: calm

    static void calmOneToTwenty() {
        sentence(18, "CALM of r rounds (1 .. 20)");
        Votes x = new Votes();
        for (int r : new int[] {MIN, -1, 0, 21, 22, MAX}) due("calm(" + r + ")", x.calm(r), NONE);
        due("BLOCKS", x.look(3), 1);
        due("delivered", x.look(11), 0);
        due("calm(1)", x.calm(1), 0);
        due("BLOCKS", x.look(3), 2);
        Votes y = new Votes();
        due("calm(20): BLOCK 1 by one NODE in three rounds, then one more by each a round", y.calm(20), 1 + 17 * 4);
        due("BLOCKS", y.look(3), 21);
    }

    static void calmPayloads() {
        sentence(18, "can it PROPOSE, it does, with the round (from 0) as PAYLOAD");
        Votes x = new Votes();
        x.calm(20);
        for (int b = 1; b <= 20; b++) due("PAYLOAD of " + b, x.block(b, 3), b - 1);
        x.calm(2);
        due("from 0 again", x.block(21, 3), 0);
        due("then 1", x.block(22, 3), 1);
    }

    static void calmDeliversAll() {
        sentence(18, "Behind the last round once more all are delivered.");
        Votes x = new Votes();
        x.calm(1);
        due("MESSAGES", x.look(4), 0);
        due("four BLOCKS, four marks", x.look(11), 8);
        due("CERTIFIED", x.block(1, 7), 1);
    }

    /** Of two BLOCKS of one VIEW each NODE votes for the one that stands first in the row. */
    static void calmInOrder() {
        sentence(18, "as long as there are MESSAGES the first is delivered");
        Votes x = new Votes();
        x.mode(1, 2);
        x.lie(1, 1, 0, 1, 0);
        x.lie(1, 1, 0, 1, 0);
        x.turn(4);
        x.calm(1);
        dueRow("the first EVENT", w -> x.event(0, w), 0, 0, 2);
        dueRow("the fourth", w -> x.event(3, w), 0, 3, 2);
        dueRow("the first line of EVIDENCE", w -> x.evidence(0, w), 1, 1, 3, 2, 1);
        due("CERTIFIED 1", x.block(1, 7), 0);
        due("CERTIFIED 2", x.block(2, 7), 1);
    }

    static void calmDeliversFirst() {
        sentence(18, "as long as there are MESSAGES the first is delivered");
        Votes x = new Votes();
        x.propose(1, 7);
        x.calm(1);
        due("BLOCKS", x.look(3), 3);
        due("VIEW of the second", x.block(2, 0), 2);
        due("its PAYLOAD", x.block(2, 3), 0);
    }

    /** Two can PROPOSE in one round: who is asked later is asked behind what the earlier one did. */
    static void calmNodeByNode() {
        sentence(18, "NODE by NODE, each asked when it is its turn");
        Votes x = Votes.liars(4);
        x.lie(1, 1, 0, 1, 0);
        x.empty();
        x.certify(1);
        due("NODE 1 can", x.node(1, 11), 1);
        due("NODE 2 can", x.node(2, 11), 1);
        x.calm(1);
        due("BLOCKS", x.look(3), 4);
        due("by 1", x.block(2, 4), 1);
        due("by 2", x.block(3, 4), 2);

        Votes y = Votes.liars(4);
        y.blocksTill(99);
        y.certify(1);
        due("NODE 1 can", y.node(1, 11), 1);
        due("NODE 2 can", y.node(2, 11), 1);
        y.calm(1);
        due("BLOCKS", y.look(3), 100);
        due("the 100th is by 1", y.block(99, 4), 1);
        for (int i = 0; i < 4; i++) due("one did, so none has timed out", y.node(i, 4), 0);
    }

    static void calmOf100Blocks() {
        sentence(18, "did none (100 BLOCKS, too): NODE by NODE: can it TIME OUT, it does");
        Votes x = new Votes();
        for (int i = 0; i < 4; i++) x.calm(20);
        x.calm(19);
        due("BLOCKS", x.look(3), 100);
        due("TIMED", x.node(0, 4), 0);
        due("VIEW of 0", x.node(0, 1), 100);
        due("VIEW of 1", x.node(1, 1), 99);
        x.calm(1);
        due("BLOCKS", x.look(3), 100);
        due("TIMED of 0", x.node(0, 4), 100);
        due("TIMED of 1", x.node(1, 4), 99);
        due("PROOF of 0", x.node(0, 7), 99);
        due("VIEW of 1", x.node(1, 1), 100);
    }

    static void calmTimesOutIfNoneDid() {
        sentence(18, "did none (100 BLOCKS, too): NODE by NODE: can it TIME OUT, it does");
        Votes x = new Votes();
        x.mode(1, 1);
        due("calm(1)", x.calm(1), 0);
        due("delivered: three sends to four", x.look(11), 12);
        due("BLOCKS", x.look(3), 1);
        dueRow("TIMED", i -> x.node(i, 4), 1, 0, 1, 1);
        dueRow("VIEW", i -> x.node(i, 1), 2, 1, 2, 2);
        Votes y = new Votes();
        y.calm(1);
        dueRow("one did: TIMED", i -> y.node(i, 4), 0, 0, 0, 0);
    }

    static void calmInView201() {
        sentence(18, "can it TIME OUT, it does");
        Votes x = Votes.liars(4);
        x.toView(201);
        int delivered = x.look(11);
        due("calm(20)", x.calm(20), 0);
        due("nothing was sent", x.look(11), delivered);
        due("VIEW", x.node(0, 1), 201);
        Votes y = Votes.liars(4);
        y.toView(200);
        y.mode(0, 1);
        y.calm(1);
        due("VIEW 200's LEADER is silent: VIEW of 1", y.node(1, 1), 201);
        due("TIMED", y.node(1, 4), 200);
    }

    static void calmOfSilentOnes() {
        sentence(18, "CALM: how much longer all LOGS together got; NONE if r can't be.");
        Votes x = new Votes();
        x.propose(1, 0);
        for (int i = 0; i < 4; i++) x.mode(i, 1);
        due("calm(20)", x.calm(20), 0);
        due("MESSAGES", x.look(4), 0);
        due("delivered", x.look(11), 4);
        due("BLOCKS", x.look(3), 2);
    }

    static void calmCountsAllLogs() {
        sentence(18, "CALM: how much longer all LOGS together got; NONE if r can't be.");
        Votes x = Votes.liars(4);
        due("liars' LOGS, too", x.calm(4), 5);
        Votes y = new Votes();
        y.nodes(7);
        due("of seven, three rounds", y.calm(3), 1);
        due("a fourth", y.calm(1), 7);
    }

    static void calmRefused() {
        sentence(18, "NONE if r can't be");
        changesNothing(Votes::busy, x -> {
            due("calm(0)", x.calm(0), NONE);
            due("calm(21)", x.calm(21), NONE);
        });
    }
}
