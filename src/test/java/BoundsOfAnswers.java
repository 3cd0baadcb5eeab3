import java.io.IOException;
import java.util.function.Supplier;

/** The boundary cases of promises 24 to 44, a test for each: what is asked, what is in thought, the image. */
public final class BoundsOfAnswers extends Bounds {
    public static void main(String[] args) throws IOException, IllegalAccessException {
        runAll(BoundsOfAnswers.class, 24, 44);
    }

    private static final int[] NO_BLOCK_OF_TWO = {MIN, -1, 2, 3, 99, 100, 200, MAX};

    private static int[] noNodeOf(int n) {
        return new int[] {MIN, -1, n, n + 1, 100, MAX};
    }

    /** 99 rounds in which an honest LEADER proposes: a CHAIN of 100 BLOCKS. */
    private static Votes hundredBlocks() {
        Votes x = new Votes();
        for (int i = 0; i < 4; i++) x.calm(20);
        x.calm(19);
        return x;
    }

    /** BLOCK 1 of VIEW 1 on 0; 2 and 4 of VIEW 2 on it; 3 on 2 and 5 on 4, of VIEW 3. All are certified. */
    private static Votes branches() {
        Votes x = Votes.liars(4);
        int a = x.forge(0, 1);
        int b = x.forge(a, 2);
        x.forge(b, 3);
        int d = x.forge(a, 2);
        x.forge(d, 3);
        return x;
    }

    /** VIEWS with gaps: BLOCK 1 of VIEW 1, 2 of VIEW 5, 3 of VIEW 9, one on the other, each carrying the certificate of 0. */
    private static Votes gaps() {
        Votes x = Votes.liars(4);
        x.lie(1, 3, 0, 1, 5);
        x.lie(1, 3, 1, 5, 7);
        x.lie(1, 3, 2, 9, 9);
        x.empty();
        return x;
    }

    // ---------------------------------------------------------------- 24: node

    static void nodeOfWhom() {
        sentence(24, "NONE if there is none such, or another what.");
        for (int n = 4; n <= 7; n++) {
            Votes x = new Votes();
            x.nodes(n);
            for (int i : noNodeOf(n)) for (int w = 0; w <= 12; w++) due("node(" + i + ", " + w + ") of " + n, x.node(i, w), NONE);
            due("VIEW of the first", x.node(0, 1), 1);
            due("VIEW of the last", x.node(n - 1, 1), 1);
        }
    }

    static void nodeWhat() {
        sentence(24, "NONE if there is none such, or another what.");
        Votes x = new Votes();
        for (int w : new int[] {MIN, -1, 13, 14, MAX}) due("node(1, " + w + ")", x.node(1, w), NONE);
        due("what 0", x.node(1, 0), 0);
        due("what 12", x.node(1, 12), 1);
    }

    static void nodeOfASilentOne() {
        sentence(24, "11 whether it can PROPOSE, 12 whether it can TIME OUT (1, 0)");
        Votes x = new Votes();
        due("an honest LEADER can PROPOSE", x.node(1, 11), 1);
        due("and TIME OUT", x.node(1, 12), 1);
        x.mode(1, 1);
        due("a silent one can't PROPOSE", x.node(1, 11), 0);
        due("nor TIME OUT", x.node(1, 12), 0);
        due("it is told of", x.node(1, 1), 1);
        x.mode(1, 2);
        due("a liar can PROPOSE", x.node(1, 11), 1);
        due("and TIME OUT", x.node(1, 12), 1);
    }

    static void nodeOfTheLastViews() {
        sentence(24, "11 whether it can PROPOSE, 12 whether it can TIME OUT (1, 0)");
        Votes x = Votes.liars(4);
        x.toView(200);
        due("PROPOSE in VIEW 200", x.node(0, 11), 1);
        due("TIME OUT in VIEW 200", x.node(0, 12), 1);
        x.toView(201);
        due("PROPOSE in VIEW 201", x.node(1, 11), 0);
        due("TIME OUT in VIEW 201", x.node(1, 12), 0);
        due("VIEW", x.node(1, 1), 201);
        due("PROOF", x.node(1, 7), 200);
    }

    static void nodeAsksOnly() {
        sentence(24, "11 whether it can PROPOSE, 12 whether it can TIME OUT (1, 0)");
        changesNothing(Votes::busy, x -> {
            for (int i = -1; i <= 4; i++) for (int w = -1; w <= 13; w++) x.node(i, w);
        });
    }

    // ---------------------------------------------------------------- 25: log

    static void logOfWhich() {
        sentence(25, "The i-th BLOCK of a NODE's LOG (from 0). NONE if there is none such.");
        Votes x = new Votes();
        x.calm(3);
        for (int i : noNodeOf(4)) due("log(" + i + ", 0)", x.log(i, 0), NONE);
        for (int i : new int[] {MIN, -1, 2, 3, 99, 100, MAX}) due("log(0, " + i + ") of 2", x.log(0, i), NONE);
        due("log(0, 0)", x.log(0, 0), 0);
        due("log(0, 1)", x.log(0, 1), 1);
        due("log(1, 1) of 1", x.log(1, 1), NONE);
        due("log(3, 0)", x.log(3, 0), 0);
    }

    static void logOfTheLongest() {
        sentence(25, "The i-th BLOCK of a NODE's LOG (from 0). NONE if there is none such.");
        Votes x = hundredBlocks();
        due("how many", x.node(0, 8), 98);
        due("log(0, 97)", x.log(0, 97), 97);
        due("log(0, 98)", x.log(0, 98), NONE);
        due("log(1, 96)", x.log(1, 96), 96);
        due("log(1, 97)", x.log(1, 97), NONE);
    }

    static void logOfASilentOne() {
        sentence(25, "The i-th BLOCK of a NODE's LOG (from 0). NONE if there is none such.");
        Votes x = new Votes();
        x.calm(3);
        x.mode(0, 1);
        due("log(0, 1)", x.log(0, 1), 1);
        due("log(0, 2)", x.log(0, 2), NONE);
    }

    // ---------------------------------------------------------------- 26: block

    static void blockWhich() {
        sentence(26, "NONE, too, if there is none such, or another what.");
        Votes x = new Votes();
        x.propose(1, 9);
        for (int b : NO_BLOCK_OF_TWO) for (int w = 0; w <= 7; w++) due("block(" + b + ", " + w + ")", x.block(b, w), NONE);
        due("the last", x.block(1, 3), 9);
        due("the first", x.block(0, 7), 1);
    }

    static void blockWhat() {
        sentence(26, "NONE, too, if there is none such, or another what.");
        Votes x = new Votes();
        x.propose(1, 9);
        for (int w : new int[] {MIN, -1, 8, 9, MAX}) {
            due("block(0, " + w + ")", x.block(0, w), NONE);
            due("block(1, " + w + ")", x.block(1, w), NONE);
        }
        dueRow("block 1", w -> x.block(1, w), 1, 0, 0, 9, 1, 1, 1, 0, NONE);
        dueRow("block 0", w -> x.block(0, w), 0, NONE, 0, 0, NONE, 0, 0, 1, NONE);
    }

    static void blockHeight() {
        sentence(26, "HEIGHT (PARENT's and 1)");
        Votes x = gaps();
        dueRow("HEIGHT", b -> x.block(b, 5), 0, 1, 2, 3, NONE);
        dueRow("VIEW", b -> x.block(b, 0), 0, 1, 5, 9, NONE);
        dueRow("PARENT", b -> x.block(b, 1), NONE, 0, 1, 2, NONE);
        dueRow("JUSTIFY", b -> x.block(b, 2), 0, 0, 0, 0, NONE);
    }

    static void blockThe100th() {
        sentence(26, "BLOCKS 0 .. 99 as they come");
        Votes x = hundredBlocks();
        due("BLOCKS", x.look(3), 100);
        dueRow("block 99", w -> x.block(99, w), 99, 98, 98, 18, 3, 99, 0, 1);
        due("block(100, 0)", x.block(100, 0), NONE);
    }

    // ---------------------------------------------------------------- 27: marks, 37: markers

    static void marksOfWhich() {
        sentence(27, "How many MARKS a NODE has noted for a BLOCK; NONE if there is none such.");
        Votes x = new Votes();
        x.propose(1, 0);
        x.deliverAll();
        for (int i : noNodeOf(4)) due("marks(" + i + ", 1)", x.marks(i, 1), NONE);
        for (int b : NO_BLOCK_OF_TWO) due("marks(2, " + b + ")", x.marks(2, b), NONE);
        due("for BLOCK 0", x.marks(2, 0), 0);
        due("for BLOCK 1", x.marks(2, 1), 4);
        due("another NODE's", x.marks(3, 1), 0);
        due("the first NODE's", x.marks(0, 1), 0);
    }

    static void marksUpToAll() {
        sentence(27, "How many MARKS a NODE has noted for a BLOCK; NONE if there is none such.");
        Votes x = Votes.liars(7);
        x.lie(1, 1, 0, 1, 0);
        x.empty();
        for (int i = 0; i < 7; i++) {
            due("marks(2, 1)", x.marks(2, 1), i);
            x.lie(i, 0, 1, 0, 0);
            x.lie(i, 0, 1, 0, 0);
            x.deliverAll();
        }
        due("of all seven", x.marks(2, 1), 7);
    }

    static void marksForTheLastBlock() {
        sentence(27, "How many MARKS a NODE has noted for a BLOCK; NONE if there is none such.");
        Votes x = Votes.liars(4);
        x.blocksTill(100);
        x.lie(3, 0, 99, 0, 0);
        x.deliver(0);
        due("marks(2, 99)", x.marks(2, 99), 1);
        due("marks(2, 98)", x.marks(2, 98), 0);
        due("marks(2, 100)", x.marks(2, 100), NONE);
    }

    static void markersOfWhich() {
        sentence(37, "Which NODES' MARKS a NODE has noted for a BLOCK (a set); NONE if there is none such.");
        Votes x = new Votes();
        x.propose(1, 0);
        x.deliverAll();
        for (int i : noNodeOf(4)) due("markers(" + i + ", 1)", x.markers(i, 1), NONE);
        for (int b : NO_BLOCK_OF_TWO) due("markers(2, " + b + ")", x.markers(2, b), NONE);
        due("for BLOCK 0", x.markers(2, 0), 0);
        due("for BLOCK 1", x.markers(2, 1), 15);
        due("another NODE's", x.markers(3, 1), 0);
    }

    static void markersUpToAll() {
        sentence(37, "Which NODES' MARKS a NODE has noted for a BLOCK (a set); NONE if there is none such.");
        Votes x = Votes.liars(7);
        x.lie(1, 1, 0, 1, 0);
        x.empty();
        int set = 0;
        for (int i = 6; i >= 0; i--) {
            due("markers(2, 1)", x.markers(2, 1), set);
            x.lie(i, 0, 1, 0, 0);
            x.deliverAll();
            set += 1 << i;
        }
        due("of all seven", x.markers(2, 1), 127);
    }

    static void markersForTheLastBlock() {
        sentence(37, "Which NODES' MARKS a NODE has noted for a BLOCK (a set); NONE if there is none such.");
        Votes x = Votes.liars(4);
        x.blocksTill(100);
        x.lie(3, 0, 99, 0, 0);
        x.deliver(0);
        due("markers(2, 99)", x.markers(2, 99), 8);
        due("markers(2, 100)", x.markers(2, 100), NONE);
    }

    // ---------------------------------------------------------------- 28: timeouts

    static void timeoutsOfWhom() {
        sentence(28, "NONE if there is none such.");
        for (int n = 4; n <= 7; n++) {
            Votes x = new Votes();
            x.nodes(n);
            for (int i : noNodeOf(n)) due("timeouts(" + i + ", 1) of " + n, x.timeouts(i, 1), NONE);
            due("of the first", x.timeouts(0, 1), 0);
            due("of the last", x.timeouts(n - 1, 1), 0);
        }
    }

    static void timeoutsForWhichView() {
        sentence(28, "How many TIMEOUTS a NODE has noted for a VIEW (1 .. 200)");
        Votes x = Votes.liars(4);
        x.lie(3, 2, 0, 1, 0);
        x.lie(3, 2, 0, 200, 0);
        x.deliverAll();
        for (int v : new int[] {MIN, -1, 0, 201, 202, MAX}) due("timeouts(0, " + v + ")", x.timeouts(0, v), NONE);
        due("timeouts(0, 1)", x.timeouts(0, 1), 1);
        due("timeouts(0, 2)", x.timeouts(0, 2), 0);
        due("timeouts(0, 199)", x.timeouts(0, 199), 0);
        due("timeouts(0, 200)", x.timeouts(0, 200), 1);
    }

    static void timeoutsUpToAll() {
        sentence(28, "How many TIMEOUTS a NODE has noted for a VIEW (1 .. 200)");
        Votes x = Votes.liars(7);
        for (int i = 0; i < 7; i++) {
            due("timeouts(6, 200)", x.timeouts(6, 200), i);
            x.lie(i, 2, 0, 200, 0);
            x.lie(i, 2, 0, 200, 0);
            x.deliverAll();
        }
        due("of all seven", x.timeouts(6, 200), 7);
    }

    // ---------------------------------------------------------------- 29: message

    static void messageWhich() {
        sentence(29, "NONE - 1 if there is none such, or another what.");
        Votes x = new Votes();
        for (int w = 0; w <= 4; w++) due("message(0, " + w + ") of none", x.message(0, w), NO_MESSAGE);
        x.timeout(3);
        for (int i : new int[] {MIN, -1, 4, 5, 199, 200, MAX}) {
            for (int w = 0; w <= 4; w++) due("message(" + i + ", " + w + ") of 4", x.message(i, w), NO_MESSAGE);
        }
        dueRow("the first", w -> x.message(0, w), 3, 0, 3, 1, 0);
        dueRow("the last", w -> x.message(3, w), 3, 3, 3, 1, 0);
    }

    static void messageWhat() {
        sentence(29, "NONE - 1 if there is none such, or another what.");
        Votes x = new Votes();
        x.timeout(3);
        for (int w : new int[] {MIN, -1, 5, 6, MAX}) due("message(0, " + w + ")", x.message(0, w), NO_MESSAGE);
    }

    static void messageHigh() {
        sentence(29, "HIGH (3: a BLOCK; else NONE)");
        Votes x = new Votes();
        x.propose(1, 0);
        x.deliver(0);
        due("of a BLOCK", x.message(0, 4), NONE);
        due("of a mark", x.message(3, 4), NONE);
        x.timeout(3);
        due("of a timeout", x.message(4, 4), 0);
    }

    /** The numbers of a MESSAGE at their greatest: NODE 6, VIEW 200, BLOCK 99. */
    static void messageOfTheGreatest() {
        sentence(29, "Of the i-th MESSAGE what 0 FROM, 1 TO, 2 KIND, 3 WHAT, 4 HIGH (NONE).");
        Votes x = Votes.liars(7);
        x.blocksTill(100);
        x.lie(6, 0, 99, 0, 0);
        dueRow("a mark", w -> x.message(0, w), 6, 2, 2, 99, NONE);
        x.certify(99);
        due("CERTIFIED", x.block(99, 7), 1);
        x.lie(6, 2, 99, 200, 0);
        dueRow("a timeout", w -> x.message(6, w), 6, 6, 3, 200, 99);
    }

    static void messageThe200th() {
        sentence(29, "One that would be the 201st is LOST (counted; of a send to all each by itself).");
        Votes x = Votes.liars(4);
        for (int v = 1; v <= 49; v++) x.lie(0, 2, 0, v, 0);
        due("MESSAGES", x.look(4), 196);
        x.lie(0, 2, 0, 50, 0);
        due("MESSAGES", x.look(4), 200);
        due("LOST", x.look(5), 0);
        dueRow("the 200th", w -> x.message(199, w), 0, 3, 3, 50, 0);
        due("the 201st", x.message(200, 0), NO_MESSAGE);
        x.lie(0, 2, 0, 51, 0);
        due("LOST", x.look(5), 4);
        due("MESSAGES", x.look(4), 200);
        due("the 200th stays", x.message(199, 3), 50);
        x.drop(0);
        x.lie(0, 2, 0, 52, 0);
        due("LOST: three of four", x.look(5), 7);
        dueRow("the 200th", w -> x.message(199, w), 0, 0, 3, 52, 0);
    }

    // ---------------------------------------------------------------- 30: evidence

    static void evidenceOfNone() {
        sentence(30, "NONE if there is none such, or another what.");
        Votes x = new Votes();
        for (int i : new int[] {MIN, -1, 0, 1, 59, 60, MAX}) due("evidence(" + i + ", 0)", x.evidence(i, 0), NONE);
    }

    static void evidenceWhich() {
        sentence(30, "NONE if there is none such, or another what.");
        Votes x = Votes.liars(4);
        x.lie(1, 1, 0, 1, 0);
        x.lie(1, 1, 0, 1, 1);
        x.deliver(0);
        x.deliver(3);
        due("lines", x.look(6), 1);
        dueRow("line 0", w -> x.evidence(0, w), 1, 1, 0, 1, 2, NONE);
        for (int w : new int[] {MIN, -1, 5, 6, MAX}) due("evidence(0, " + w + ")", x.evidence(0, w), NONE);
        for (int i : new int[] {MIN, -1, 1, 59, 60, MAX}) due("evidence(" + i + ", 0)", x.evidence(i, 0), NONE);
    }

    static void evidenceOf60Lines() {
        sentence(30, "EVIDENCE (60 lines; no more then;");
        Votes x = new Votes();
        x.mode(1, 2);
        for (int b = 1; b <= 16; b++) x.lie(1, 1, 0, 1, 0);
        for (int i = 0; i < 63; i++) x.deliver(0);
        due("lines", x.look(6), 59);
        due("the 60th", x.evidence(59, 0), NONE);
        x.deliver(0);
        due("lines", x.look(6), 60);
        dueRow("the 60th", w -> x.evidence(59, w), 1, 1, 3, 1, 16);
        x.lie(1, 1, 0, 1, 0);
        due("a BLOCK", x.deliver(4), 1);
        due("lines", x.look(6), 60);
        due("the 61st", x.evidence(60, 0), NONE);
        dueRow("the 60th stays", w -> x.evidence(59, w), 1, 1, 3, 1, 16);
        dueRow("the first stays", w -> x.evidence(0, w), 1, 1, 0, 1, 2);
        due("it was proposed all the same", x.since(0, 4), 17);
        for (int i = 0; i < 4; i++) due("a mark", x.deliver(0), 2);
        x.lie(1, 0, 2, 0, 0);
        due("another mark of 1", x.deliver(x.look(4) - 1), 2);
        due("it is noted", x.markers(2, 2), 2);
        due("lines", x.look(6), 60);
        due("against how many", x.audit(1), 1);
    }

    static void evidenceSeenByEach() {
        sentence(30, "one against the same NODE, of the same KIND and BLOCKS, seen by the same NODE, once");
        Votes x = Votes.liars(4);
        x.lie(1, 1, 0, 1, 0);
        x.lie(1, 1, 0, 1, 0);
        x.deliverAll();
        due("a line by each NODE", x.look(6), 4);
        for (int i = 0; i < 4; i++) {
            int line = i;
            dueRow("line " + i, w -> x.evidence(line, w), 1, 1, i, 1, 2);
        }
    }

    static void evidenceOnce() {
        sentence(30, "one against the same NODE, of the same KIND and BLOCKS, seen by the same NODE, once");
        Votes x = Votes.liars(4);
        x.lie(1, 1, 0, 1, 0);
        x.lie(1, 1, 0, 1, 0);
        x.empty();
        for (int i = 0; i < 3; i++) {
            x.lie(3, 0, 1, 0, 0);
            x.lie(3, 0, 2, 0, 0);
            x.deliverAll();
            due("one line", x.look(6), 1);
        }
        dueRow("line 0", w -> x.evidence(0, w), 2, 3, 2, 1, 2);
    }

    static void evidenceOfTheLeastMark() {
        sentence(30, "EVIDENCE against j (KIND 2; that BLOCK, of several the least, b)");
        Votes x = Votes.liars(4);
        for (int b = 1; b <= 3; b++) x.lie(1, 1, 0, 1, 0);
        x.lie(2, 1, 0, 2, 0);
        x.empty();
        for (int b : new int[] {3, 1, 2, 4}) {
            x.lie(0, 0, b, 0, 0);
            x.deliverAll();
        }
        due("lines", x.look(6), 2);
        dueRow("line 0", w -> x.evidence(0, w), 2, 0, 2, 3, 1);
        dueRow("line 1", w -> x.evidence(1, w), 2, 0, 2, 1, 2);
        x.lie(3, 0, 2, 0, 0);
        x.deliverAll();
        due("another's mark", x.look(6), 2);
    }

    static void evidenceOfMarksOfOneView() {
        sentence(30, "Has it a mark of j for another BLOCK of that VIEW");
        Votes x = Votes.liars(4);
        x.lie(1, 1, 0, 1, 0);
        x.lie(1, 1, 0, 5, 0);
        x.lie(1, 3, 1, 5, 0);
        x.empty();
        for (int b = 1; b <= 2; b++) {
            x.lie(3, 0, b, 0, 0);
            x.deliverAll();
        }
        due("of one HEIGHT, but two VIEWS", x.look(6), 0);
        x.lie(3, 0, 3, 0, 0);
        x.deliverAll();
        due("of one VIEW, but two HEIGHTS", x.look(6), 1);
        dueRow("line 0", w -> x.evidence(0, w), 2, 3, 2, 2, 3);
    }

    // ---------------------------------------------------------------- 31: event

    static void eventOfNone() {
        sentence(31, "NONE if there is none such, or another what.");
        Votes x = new Votes();
        for (int i : new int[] {MIN, -1, 0, 1, 99, 100, MAX}) due("event(" + i + ", 0)", x.event(i, 0), NONE);
    }

    static void eventWhich() {
        sentence(31, "NONE if there is none such, or another what.");
        Votes x = new Votes();
        x.propose(1, 0);
        x.deliver(3);
        due("lines", x.look(15), 1);
        dueRow("line 0", w -> x.event(0, w), 0, 3, 1, NONE);
        for (int w : new int[] {MIN, -1, 3, 4, MAX}) due("event(0, " + w + ")", x.event(0, w), NONE);
        for (int i : new int[] {MIN, -1, 1, 99, 100, MAX}) due("event(" + i + ", 0)", x.event(i, 0), NONE);
    }

    static void eventOfEachKind() {
        sentence(31, "0 it voted, 1 it did not, for (d) is all so but that b is not SAFE, 2 it counted QUORUM marks, 3 committed (each BLOCK), 4 a fork (e), 5 PROOF became that VIEW");
        Votes x = Votes.liars(4);
        x.forge(x.forge(x.forge(0, 1), 2), 3);
        x.forge(x.forge(x.forge(0, 6), 7), 8);
        x.ask(0, 1);
        int[][] due = {{2, 2, 1}, {2, 3, 2}, {2, 0, 3}, {3, 0, 1}, {2, 3, 4}, {2, 0, 5}, {2, 1, 6}, {3, 1, 4}, {4, 0, 4}};
        for (int i = 0; i < due.length; i++) {
            int line = i;
            dueRow("line " + i, w -> x.event(line, w), due[i]);
        }
        due("lines", x.look(15), 9);
        x.toView(20);
        due("lines", x.look(15), 13);
        dueRow("PROOF", w -> x.event(12, w), 5, 3, 19);
        x.lie(0, 1, 0, 20, 0);
        for (int i = 0; i < 3; i++) x.deliver(0);
        dueRow("around NODE 0's LOCK", w -> x.event(13, w), 1, 0, 7);
        dueRow("around NODE 1's LOCK", w -> x.event(14, w), 1, 1, 7);
        dueRow("NODE 2 has none but 0", w -> x.event(15, w), 0, 2, 7);
        due("lines", x.look(15), 16);
    }

    static void eventOf100Lines() {
        sentence(31, "EVENTS (100 lines; no more then)");
        Votes x = Votes.liars(4);
        for (int view = 2; view <= 25; view++) x.toView(view);
        due("lines: PROOF of four NODES for 24 VIEWS", x.look(15), 96);
        for (int i = 0; i < 3; i++) x.lie(i, 2, 0, 25, 0);
        for (int i = 0; i < 11; i++) x.deliver(0);
        due("lines", x.look(15), 99);
        due("the 100th", x.event(99, 0), NONE);
        x.deliver(0);
        due("lines", x.look(15), 100);
        dueRow("the 100th", w -> x.event(99, w), 5, 3, 25);
        x.toView(27);
        due("PROOF", x.node(0, 7), 26);
        due("lines", x.look(15), 100);
        due("the 101st", x.event(100, 0), NONE);
        dueRow("the 100th stays", w -> x.event(99, w), 5, 3, 25);
        dueRow("the first stays", w -> x.event(0, w), 5, 0, 1);
    }

    // ---------------------------------------------------------------- 32: ledger

    static void ledgerOfWhich() {
        sentence(32, "LEDGER of a NODE (false), a BLOCK (true): ACCOUNT a. NONE if there is none such.");
        Votes x = new Votes();
        x.propose(1, 7);
        for (int i : noNodeOf(4)) due("ledger(" + i + ", false, 0)", x.ledger(i, false, 0), NONE);
        for (int b : NO_BLOCK_OF_TWO) due("ledger(" + b + ", true, 0)", x.ledger(b, true, 0), NONE);
        due("the first NODE's", x.ledger(0, false, 0), 10);
        due("the last NODE's", x.ledger(3, false, 0), 10);
        due("the first BLOCK's", x.ledger(0, true, 0), 10);
        due("the last BLOCK's", x.ledger(1, true, 0), 17);
        due("a NODE's number is no BLOCK's", x.ledger(2, true, 0), NONE);
    }

    static void ledgerOfWhichAccount() {
        sentence(32, "LEDGER: five ACCOUNTS, 10 each");
        Votes x = new Votes();
        for (int a : new int[] {MIN, -1, 5, 6, MAX}) {
            due("ledger(0, false, " + a + ")", x.ledger(0, false, a), NONE);
            due("ledger(0, true, " + a + ")", x.ledger(0, true, a), NONE);
        }
        for (int a = 0; a < 5; a++) {
            due("ledger(0, false, " + a + ")", x.ledger(0, false, a), 10);
            due("ledger(0, true, " + a + ")", x.ledger(0, true, a), 10);
        }
    }

    /** The ACCOUNTS behind PAYLOADS, one BLOCK behind the other. */
    private static void dueLedger(int[] payloads, int... want) {
        Votes x = new Votes();
        for (int i = 0; i < payloads.length; i++) {
            due("propose", x.propose((i + 1) % 4, payloads[i]), i + 1);
            x.deliverAll();
        }
        for (int a = 0; a < 5; a++) due("ACCOUNT " + a + " behind " + java.util.Arrays.toString(payloads), x.ledger(payloads.length, true, a), want[a]);
    }

    static void ledgerMore() {
        sentence(32, "AMOUNT m: p modulo 50: 0: a has m more");
        dueLedger(new int[] {0}, 10, 10, 10, 10, 10);
        dueLedger(new int[] {1}, 11, 10, 10, 10, 10);
        dueLedger(new int[] {49}, 59, 10, 10, 10, 10);
        dueLedger(new int[] {50}, 10, 10, 10, 10, 10);
        dueLedger(new int[] {51}, 10, 11, 10, 10, 10);
        dueLedger(new int[] {99}, 10, 59, 10, 10, 10);
        dueLedger(new int[] {200}, 10, 10, 10, 10, 10);
        dueLedger(new int[] {249}, 10, 10, 10, 10, 59);
    }

    static void ledgerLess() {
        sentence(32, "1: m less (0 at least)");
        dueLedger(new int[] {250}, 10, 10, 10, 10, 10);
        dueLedger(new int[] {251}, 9, 10, 10, 10, 10);
        dueLedger(new int[] {259}, 1, 10, 10, 10, 10);
        dueLedger(new int[] {260}, 0, 10, 10, 10, 10);
        dueLedger(new int[] {261}, 0, 10, 10, 10, 10);
        dueLedger(new int[] {299}, 0, 10, 10, 10, 10);
        dueLedger(new int[] {300}, 10, 10, 10, 10, 10);
        dueLedger(new int[] {499}, 10, 10, 10, 10, 0);
        dueLedger(new int[] {299, 5}, 5, 10, 10, 10, 10);
    }

    static void ledgerGoesToTheNext() {
        sentence(32, "2: m, or all it has, goes from a to the next ACCOUNT (behind 4: 0)");
        dueLedger(new int[] {500}, 10, 10, 10, 10, 10);
        dueLedger(new int[] {501}, 9, 11, 10, 10, 10);
        dueLedger(new int[] {509}, 1, 19, 10, 10, 10);
        dueLedger(new int[] {510}, 0, 20, 10, 10, 10);
        dueLedger(new int[] {511}, 0, 20, 10, 10, 10);
        dueLedger(new int[] {549}, 0, 20, 10, 10, 10);
        dueLedger(new int[] {650}, 10, 10, 10, 10, 10);
        dueLedger(new int[] {699}, 10, 10, 10, 0, 20);
        dueLedger(new int[] {703}, 13, 10, 10, 10, 7);
        dueLedger(new int[] {749}, 20, 10, 10, 10, 0);
        dueLedger(new int[] {510, 505}, 0, 20, 10, 10, 10);
    }

    static void ledgerAllOfTheNext() {
        sentence(32, "3: all of the next one goes to a");
        dueLedger(new int[] {750}, 20, 0, 10, 10, 10);
        dueLedger(new int[] {799}, 20, 0, 10, 10, 10);
        dueLedger(new int[] {800}, 10, 20, 0, 10, 10);
        dueLedger(new int[] {949}, 10, 10, 10, 20, 0);
        dueLedger(new int[] {950}, 0, 10, 10, 10, 20);
        dueLedger(new int[] {999}, 0, 10, 10, 10, 20);
        dueLedger(new int[] {299, 950}, 0, 10, 10, 10, 10);
    }

    static void ledgerBehindTheLog() {
        sentence(32, "of a NODE behind its LOG, of a BLOCK behind its CHAIN, from BLOCK 0 on");
        Votes x = new Votes();
        for (int i = 0; i < 4; i++) {
            x.propose((i + 1) % 4, i + 1);
            x.deliverAll();
        }
        due("NODE 1's last", x.node(1, 9), 2);
        due("NODE 1", x.ledger(1, false, 0), 13);
        due("NODE 0's last", x.node(0, 9), 1);
        due("NODE 0", x.ledger(0, false, 0), 11);
        dueRow("BLOCKS", b -> x.ledger(b, true, 0), 10, 11, 13, 16, 20, NONE);
        x.mode(1, 1);
        due("NODE 1, silent", x.ledger(1, false, 0), 13);
    }

    static void ledgerOf100Blocks() {
        sentence(32, "of a BLOCK behind its CHAIN, from BLOCK 0 on");
        Votes x = hundredBlocks();
        due("four times 0 to 19, once 0 to 18", x.ledger(99, true, 0), 10 + 4 * 190 + 171);
        due("NODE 0 without the last two, 17 and 18", x.ledger(0, false, 0), 10 + 4 * 190 + 171 - 35);
        due("ledger(100, true, 0)", x.ledger(100, true, 0), NONE);
    }

    static void ledgerOfGaps() {
        sentence(32, "of a BLOCK behind its CHAIN, from BLOCK 0 on");
        Votes x = gaps();
        dueRow("ACCOUNT 0", b -> x.ledger(b, true, 0), 10, 15, 22, 31, NONE);
        x.lie(1, 3, 0, 9, 1);
        due("of HEIGHT 1 and VIEW 9, behind a longer one", x.ledger(4, true, 0), 11);
    }

    static void ledgerOnABranch() {
        sentence(32, "of a BLOCK behind its CHAIN, from BLOCK 0 on");
        Votes x = Votes.liars(4);
        x.lie(1, 1, 0, 1, 5);
        x.lie(1, 1, 0, 1, 7);
        x.lie(2, 3, 1, 2, 20);
        due("on 1", x.ledger(3, true, 0), 35);
        due("beside it", x.ledger(2, true, 0), 17);
    }

    // ---------------------------------------------------------------- 33: without

    static void withoutWhom() {
        sentence(33, "WITHOUT. NONE, too, if there is no such NODE.");
        Votes x = new Votes();
        x.nodes(7);
        for (int i : noNodeOf(7)) due("without(" + i + ")", x.without(i), NONE);
        due("without(6)", x.without(6), 3);
        due("without(0)", x.without(0), 3);
    }

    /** As SOON of a twin in which that NODE is silent. */
    static void withoutEach() {
        sentence(33, "WITHOUT a NODE: as SOON, if it were silent.");
        for (int n = 4; n <= 7; n++) {
            for (int i = 0; i < n; i++) {
                Votes x = new Votes();
                x.nodes(n);
                x.calm(2);
                Votes y = new Votes();
                y.nodes(n);
                y.calm(2);
                y.mode(i, 1);
                due("without(" + i + ") of " + n, x.without(i), y.soon());
                due("its MODE", x.node(i, 0), 0);
            }
        }
    }

    static void withoutASilentOne() {
        sentence(33, "WITHOUT a NODE: as SOON, if it were silent.");
        Votes x = new Votes();
        x.nodes(5);
        x.mode(4, 1);
        due("without(4)", x.without(4), x.soon());
        due("without(3), too: of five two are missing", x.without(3), NONE);
    }

    static void withoutALiar() {
        sentence(33, "WITHOUT a NODE: as SOON, if it were silent.");
        Votes x = Votes.liars(4);
        x.mode(0, 0);
        due("soon()", x.soon(), 3);
        due("without the honest one", x.without(0), NONE);
        due("its MODE", x.node(0, 0), 0);
        due("soon() again", x.soon(), 3);
    }

    static void withoutNothingStays() {
        sentence(33, "IN THOUGHT (nothing of it stays)");
        changesNothing(Votes::busy, x -> {
            for (int i = -1; i <= 4; i++) x.without(i);
        });
    }

    // ---------------------------------------------------------------- 34: audit

    static void auditWhat() {
        sentence(34, "AUDIT what 0 .. 4. NONE for another what.");
        Votes x = new Votes();
        for (int w : new int[] {MIN, -1, 5, 6, MAX}) due("audit(" + w + ")", x.audit(w), NONE);
        dueRow("audit", x::audit, 0, 0, 1, 1, 0, NONE);
    }

    static void auditCouples() {
        sentence(34, "0 how many couples of CERTIFIED BLOCKS have one VIEW");
        Votes x = Votes.liars(4);
        x.lie(1, 1, 0, 1, 0);
        x.lie(1, 1, 0, 1, 0);
        x.lie(1, 1, 0, 1, 0);
        x.lie(2, 1, 0, 2, 0);
        x.empty();
        due("of none", x.audit(0), 0);
        x.certify(1);
        due("of one", x.audit(0), 0);
        x.certify(4);
        due("of one each in two VIEWS", x.audit(0), 0);
        x.certify(2);
        due("of two", x.audit(0), 1);
        x.certify(3);
        due("of three", x.audit(0), 3);
    }

    static void auditCouplesOfOneView() {
        sentence(34, "0 how many couples of CERTIFIED BLOCKS have one VIEW");
        Votes x = Votes.liars(4);
        int a = x.forge(0, 2);
        x.forge(0, 1);
        due("of one HEIGHT, VIEWS 2 and 1", x.audit(0), 0);
        int b = x.forge(a, 5);
        due("HEIGHT 2 beside VIEW 2", x.audit(0), 0);
        x.forge(0, 5);
        due("HEIGHTS 2 and 1, both of VIEW 5", x.audit(0), 1);
        due("b's HEIGHT", x.block(b, 5), 2);
    }

    static void auditAgainstWhom() {
        sentence(34, "1 against how many NODES there is EVIDENCE");
        Votes x = Votes.liars(7);
        x.lie(6, 1, 0, 6, 0);
        x.lie(6, 1, 0, 6, 0);
        x.deliverAll();
        due("lines", x.look(6), 7);
        due("against 6 alone", x.audit(1), 1);
        x.lie(0, 1, 0, 7, 0);
        x.lie(0, 1, 0, 7, 0);
        x.deliver(0);
        x.deliver(6);
        due("against 0, too", x.audit(1), 2);
    }

    static void auditAgainstOne() {
        sentence(34, "1 against how many NODES there is EVIDENCE");
        Votes x = Votes.liars(4);
        x.lie(1, 1, 0, 1, 0);
        x.lie(1, 1, 0, 1, 0);
        x.deliver(0);
        due("of no line", x.audit(1), 0);
        x.deliver(3);
        due("lines", x.look(6), 1);
        due("of one line", x.audit(1), 1);
    }

    static void auditOf100Blocks() {
        sentence(34, "AUDIT what 0 how many couples of CERTIFIED BLOCKS have one VIEW");
        Votes x = Votes.liars(4);
        x.blocksTill(100);
        x.certify(99);
        x.certify(98);
        due("98 and 99", x.audit(0), 1);
        due("best(0)", x.best(0), 98);
        dueRow("of a CHAIN of 100", hundredBlocks()::audit, 0, 0, 97, 98, 0);
    }

    static void auditOfSeven() {
        sentence(34, "3 how many BLOCKS the longest LOG of all has");
        Votes x = new Votes();
        x.nodes(7);
        dueRow("at first", x::audit, 0, 0, 1, 1, 0);
        x.calm(3);
        dueRow("NODE 4 has committed 1", x::audit, 0, 0, 1, 2, 0);
        x.calm(1);
        dueRow("all have, and NODE 5 has committed 2", x::audit, 0, 0, 2, 3, 0);
    }

    static void auditInCommon() {
        sentence(34, "2 how many BLOCKS all LOGS of NODES that are not silent have in common, from the first on (no such NODE: 0)");
        Votes x = new Votes();
        x.calm(3);
        due("NODE 0 has two, the others one", x.audit(2), 1);
        for (int i = 1; i < 4; i++) x.mode(i, 1);
        due("NODE 0 alone", x.audit(2), 2);
        x.mode(0, 1);
        due("no such NODE", x.audit(2), 0);
        x.mode(3, 2);
        due("a liar alone", x.audit(2), 1);
    }

    static void auditInCommonOfBranches() {
        sentence(34, "2 how many BLOCKS all LOGS of NODES that are not silent have in common, from the first on (no such NODE: 0)");
        Votes x = Votes.liars(4);
        x.forge(x.forge(x.forge(0, 1), 2), 3);
        x.forge(x.forge(x.forge(0, 6), 7), 8);
        due("the last of 0", x.node(0, 9), 1);
        due("the last of 1", x.node(1, 9), 4);
        x.ask(2, 1);
        x.ask(3, 1);
        due("BLOCK 0 alone", x.audit(2), 1);
        x.mode(0, 1);
        due("without 0", x.audit(2), 2);
    }

    static void auditInCommonThenUnlike() {
        sentence(34, "2 how many BLOCKS all LOGS of NODES that are not silent have in common, from the first on (no such NODE: 0)");
        Votes x = Votes.liars(4);
        int a = x.forge(0, 1);
        x.forge(x.forge(x.forge(a, 2), 3), 4);
        x.forge(x.forge(x.forge(a, 6), 7), 8);
        x.lie(0, 2, 4, 50, 0);
        x.deliver(2);
        x.deliver(2);
        x.lie(0, 2, 7, 50, 0);
        x.deliver(2);
        x.deliver(2);
        x.deliver(2);
        due("the last of 2", x.node(2, 9), 2);
        due("the last of 3", x.node(3, 9), 2);
        due("the last of 0", x.node(0, 9), 5);
        due("the last of 1", x.node(1, 9), 2);
        due("0 and 1 in common", x.audit(2), 2);
    }

    static void auditLongest() {
        sentence(34, "3 how many BLOCKS the longest LOG of all has");
        Votes x = new Votes();
        due("at first", x.audit(3), 1);
        x.calm(3);
        due("NODE 0's", x.audit(3), 2);
        x.mode(0, 1);
        due("a silent one's, too", x.audit(3), 2);
        due("of 100 BLOCKS", hundredBlocks().audit(3), 98);
    }

    static void auditStrays() {
        sentence(34, "4 how many BLOCKS are in no LOG and EXTEND the last one of none (silent NODES', too)");
        Votes x = Votes.liars(4);
        x.forge(x.forge(x.forge(0, 1), 2), 3);
        x.lie(1, 1, 0, 1, 0);
        x.lie(1, 1, 1, 5, 0);
        x.empty();
        due("BLOCK 4 EXTENDS the others' last, 0", x.audit(4), 0);
        for (int i = 1; i < 3; i++) x.ask(i, 0);
        due("still NODE 3's", x.audit(4), 0);
        x.mode(3, 1);
        due("though it is silent", x.audit(4), 0);
        x.mode(3, 0);
        x.ask(3, 0);
        due("BLOCK 4 alone: 2, 3 and 5 EXTEND 1", x.audit(4), 1);
    }

    static void auditStraysBesideTheFirstNode() {
        sentence(34, "4 how many BLOCKS are in no LOG and EXTEND the last one of none (silent NODES', too)");
        Votes x = Votes.liars(4);
        x.forge(x.forge(x.forge(0, 1), 2), 3);
        x.forge(x.forge(x.forge(0, 6), 7), 8);
        x.ask(2, 1);
        x.ask(3, 1);
        due("the last of 0", x.node(0, 9), 1);
        due("the last of 3", x.node(3, 9), 4);
        due("1, 2, 3 are NODE 0's, 4, 5, 6 the others'", x.audit(4), 0);
        x.lie(1, 1, 0, 1, 0);
        due("one on 0 beside them", x.audit(4), 1);
    }

    // ---------------------------------------------------------------- 35: pending

    static void pendingOfWhom() {
        sentence(35, "How many MESSAGES of a KIND (0: of all) go TO a NODE. NONE if there is none such.");
        for (int n = 4; n <= 7; n++) {
            Votes x = new Votes();
            x.nodes(n);
            x.timeout(0);
            for (int i : noNodeOf(n)) due("pending(" + i + ", 0) of " + n, x.pending(i, 0), NONE);
            due("of the first", x.pending(0, 0), 1);
            due("of the last", x.pending(n - 1, 3), 1);
        }
    }

    static void pendingOfWhichKind() {
        sentence(35, "How many MESSAGES of a KIND (0: of all) go TO a NODE. NONE if there is none such.");
        Votes x = Votes.liars(4);
        x.propose(1, 0);
        x.lie(0, 0, 1, 0, 0);
        x.lie(3, 0, 1, 0, 0);
        for (int i = 0; i < 3; i++) x.lie(0, 2, 0, 1, 0);
        for (int k : new int[] {MIN, -1, 4, 5, MAX}) due("pending(2, " + k + ")", x.pending(2, k), NONE);
        dueRow("pending 2", k -> x.pending(2, k), 6, 1, 2, 3, NONE);
        dueRow("pending 1", k -> x.pending(1, k), 4, 1, 0, 3, NONE);
        x.mode(2, 1);
        due("to a silent one", x.pending(2, 0), 6);
    }

    static void pendingOfNoneAndOfAFullRow() {
        sentence(35, "How many MESSAGES of a KIND (0: of all) go TO a NODE. NONE if there is none such.");
        Votes x = Votes.liars(4);
        dueRow("of none", k -> x.pending(0, k), 0, 0, 0, 0, NONE);
        x.fill(0, 200);
        dueRow("of 200", k -> x.pending(3, k), 50, 0, 0, 50, NONE);
    }

    // ---------------------------------------------------------------- 36: path

    static void pathWhich() {
        sentence(36, "The BLOCK of HEIGHT i in the CHAIN of a BLOCK. NONE if there is none such.");
        Votes x = branches();
        for (int b : new int[] {MIN, -1, 6, 7, 100, MAX}) due("path(" + b + ", 0)", x.path(b, 0), NONE);
        for (int i : new int[] {MIN, -1, 4, 5, 100, MAX}) due("path(5, " + i + ")", x.path(5, i), NONE);
        dueRow("path 5", i -> x.path(5, i), 0, 1, 4, 5, NONE);
        dueRow("path 3", i -> x.path(3, i), 0, 1, 2, 3, NONE);
        dueRow("path 0", i -> x.path(0, i), 0, NONE);
    }

    static void pathOfGaps() {
        sentence(36, "The BLOCK of HEIGHT i in the CHAIN of a BLOCK. NONE if there is none such.");
        Votes x = gaps();
        dueRow("path 3", i -> x.path(3, i), 0, 1, 2, 3, NONE, NONE, NONE, NONE, NONE, NONE);
        dueRow("path 2", i -> x.path(2, i), 0, 1, 2, NONE, NONE, NONE);
    }

    static void pathOf100Blocks() {
        sentence(36, "The BLOCK of HEIGHT i in the CHAIN of a BLOCK. NONE if there is none such.");
        Votes x = hundredBlocks();
        due("path(99, 99)", x.path(99, 99), 99);
        due("path(99, 100)", x.path(99, 100), NONE);
        due("path(99, 0)", x.path(99, 0), 0);
        due("path(98, 99)", x.path(98, 99), NONE);
        due("path(100, 0)", x.path(100, 0), NONE);
    }

    // ---------------------------------------------------------------- 38: best

    static void bestWhat() {
        sentence(38, "NONE for another what.");
        Votes x = new Votes();
        for (int w : new int[] {MIN, -1, 4, 5, MAX}) due("best(" + w + ")", x.best(w), NONE);
        dueRow("best", x::best, 0, 0, 0, 0, NONE);
    }

    static void bestOfNone() {
        sentence(38, "(1 to 3: of NODES that are not silent; none: NONE; of several BLOCKS the least)");
        Votes x = branches();
        for (int i = 0; i < 4; i++) x.mode(i, 1);
        due("the CERTIFIED BLOCK all the same", x.best(0), 3);
        for (int w = 1; w <= 3; w++) due("best(" + w + ") of none", x.best(w), NONE);
        x.mode(1, 0);
        for (int w = 1; w <= 3; w++) due("best(" + w + ") of NODE 1, which has seen nothing", x.best(w), 0);
    }

    static void bestOfSeveralTheLeast() {
        sentence(38, "(1 to 3: of NODES that are not silent; none: NONE; of several BLOCKS the least)");
        Votes x = branches();
        due("of CERTIFIED ones of VIEW 3", x.best(0), 3);
        // NODE 3 has counted 2 and then 4, of VIEW 2; NODE 1 is shown 4 alone, then 5.
        x.lie(0, 2, 4, 50, 0);
        x.deliver(1);
        x.empty();
        due("HIGH of 1", x.node(1, 5), 4);
        due("HIGH of 3", x.node(3, 5), 2);
        x.mode(0, 1);
        x.mode(2, 1);
        due("the HIGH of the least VIEW, of 4 and 2", x.best(2), 2);
        x.lie(3, 2, 5, 50, 0);
        x.deliver(1);
        x.empty();
        x.mode(0, 2);
        due("LOCK of 1", x.node(1, 6), 4);
        due("LOCK of 0", x.node(0, 6), 2);
        due("the LOCK of the greatest VIEW, of 4 and 2", x.best(1), 2);
        x.mode(0, 1);
        due("of 4 alone", x.best(1), 4);
    }

    static void bestByView() {
        sentence(38, "What 0 the CERTIFIED BLOCK of the greatest VIEW, 1 the LOCK of the greatest VIEW, 2 the HIGH of the least VIEW");
        Votes x = Votes.liars(4);
        x.forge(0, 1);
        due("one CERTIFIED BLOCK beside 0", x.best(0), 1);
        x.ask(1, 2);
        x.ask(3, 2);
        due("the HIGH of NODE 0 alone is 0", x.best(2), 0);
        Votes y = Votes.liars(4);
        y.forge(y.forge(0, 9), 10);
        y.forge(y.forge(0, 3), 4);
        due("BLOCK 2 is of VIEW 10", y.best(0), 2);
        due("LOCK of 3 is 1, of VIEW 9, LOCK of 1 is 3, of VIEW 3", y.best(1), 1);
        y.mode(0, 1);
        y.mode(2, 1);
        due("HIGH of 3 is 2, of VIEW 10, HIGH of 1 is 4, of VIEW 4", y.best(2), 4);
    }

    /** HEIGHTS say nothing of a LOCK, VIEWS nothing of a LOG. */
    static void bestByViewOrHeight() {
        sentence(38, "1 the LOCK of the greatest VIEW, 2 the HIGH of the least VIEW, 3 the last of a LOG of the greatest HEIGHT");
        Votes x = Votes.liars(4);
        x.forge(x.forge(x.forge(x.forge(0, 1), 2), 3), 4);
        due("the last of 1: VIEW 2, HEIGHT 2", x.node(1, 9), 2);
        int e = x.forge(0, 9);
        x.forge(x.forge(e, 10), 11);
        due("FORKS of 0: it has had BLOCK 1 as the last", x.node(0, 10), 1);
        x.ask(2, 0);
        due("the last of 2: VIEW 9, HEIGHT 1", x.node(2, 9), e);
        x.mode(0, 1);
        due("LOG", x.best(3), 2);
        Votes y = Votes.liars(4);
        y.forge(y.forge(y.forge(0, 1), 2), 3);
        int d = y.forge(0, 9);
        y.forge(d, 10);
        due("LOCK of 0: VIEW 2, HEIGHT 2", y.node(0, 6), 2);
        due("LOCK of 3: VIEW 9, HEIGHT 1", y.node(3, 6), d);
        due("LOCK", y.best(1), d);
    }

    static void bestByOne() {
        sentence(38, "1 the LOCK of the greatest VIEW, 2 the HIGH of the least VIEW, 3 the last of a LOG of the greatest HEIGHT");
        Votes x = new Votes();
        x.calm(4);
        due("NODE 1's LOCK is one VIEW above the others'", x.best(1), 3);
        due("the others' HIGH is one VIEW below NODE 1's", x.best(2), 3);
        due("NODE 1's LOG is one longer", x.best(3), 2);
        Votes y = new Votes();
        y.calm(3);
        due("NODE 0's LOCK", y.best(1), 2);
        due("NODE 0's LOG", y.best(3), 1);
    }

    static void bestOf100Blocks() {
        sentence(38, "What 0 the CERTIFIED BLOCK of the greatest VIEW");
        dueRow("best", hundredBlocks()::best, 99, 98, 98, 97, NONE);
    }

    static void bestOfLogs() {
        sentence(38, "3 the last of a LOG of the greatest HEIGHT");
        Votes x = Votes.liars(4);
        x.forge(x.forge(x.forge(0, 5), 6), 7);
        x.forge(x.forge(x.forge(0, 2), 3), 4);
        due("the last of 0", x.node(0, 9), 1);
        due("the last of 1", x.node(1, 9), 4);
        due("of one HEIGHT the least", x.best(3), 1);
        x.mode(0, 1);
        due("without 0", x.best(3), 4);
        x.mode(1, 1);
        due("of those that have 0", x.best(3), 0);
    }

    // ---------------------------------------------------------------- 39: soon

    static void soonAtFirst() {
        sentence(39, "SOON: by CALM of how few rounds (1 .. 20) the LOG of some honest NODE gets longer (NONE).");
        Votes x = new Votes();
        due("three rounds", x.soon(), 3);
        x.calm(1);
        due("two", x.soon(), 2);
        x.calm(1);
        due("one", x.soon(), 1);
    }

    /** By what is under way alone it takes one round, not none. */
    static void soonByWhatIsUnderWay() {
        sentence(39, "SOON: by CALM of how few rounds (1 .. 20) the LOG of some honest NODE gets longer (NONE).");
        Votes x = new Votes();
        x.calm(2);
        x.propose(3, 0);
        due("MESSAGES", x.look(4), 4);
        due("one", x.soon(), 1);
    }

    private static boolean isLonger(Votes x, int[] before) {
        boolean is = false;
        for (int i = 0; i < before.length; i++) is |= x.node(i, 0) == 0 && x.node(i, 8) > before[i];
        return is;
    }

    /** One NODE, a liar, is ahead in a VIEW by timeouts that the others have not seen; all others are honest. */
    private static Votes oneAhead(int n, int rule, int who, int view) {
        Votes x = new Votes();
        x.nodes(n);
        x.leaders(rule);
        for (int i = 0; i < n; i++) x.mode(i, 2);
        int quorum = x.look(2);
        for (int i = 0; i < quorum; i++) x.lie(i, 2, 0, view - 1, 0);
        for (int i = 0; i < n; i++) if (i != who) x.lose(i);
        x.deliverAll();
        for (int i = 0; i < n; i++) if (i != who) x.mode(i, 0);
        return x;
    }

    /** SOON of an object, by CALM of that many rounds, and of one less, on twins of it. */
    private static void dueSoon(Supplier<Votes> made, int rounds) {
        int n = made.get().look(0);
        int[] before = new int[n];
        for (int i = 0; i < n; i++) before[i] = made.get().node(i, 8);
        Votes some = made.get();
        some.calm(Math.min(rounds, 20));
        for (int left = rounds - 20; left > 0; left -= 20) some.calm(Math.min(left, 20));
        due("longer by " + rounds, isLonger(some, before), true);
        if (rounds > 1) {
            Votes fewer = made.get();
            fewer.calm(rounds - 1);
            due("longer by " + (rounds - 1), isLonger(fewer, before), false);
        }
        due("soon()", made.get().soon(), rounds > 20 ? NONE : rounds);
    }

    static void soonUpTo20() {
        sentence(39, "SOON: by CALM of how few rounds (1 .. 20) the LOG of some honest NODE gets longer (NONE).");
        dueSoon(Votes::new, 3);
        dueSoon(() -> oneAhead(4, 0, 1, 14), 20);
        dueSoon(() -> oneAhead(6, 2, 1, 14), 21);
    }

    /** BLOCK 1 is under way: the first round delivers it ahead of who PROPOSES. */
    static void soonDeliversFirst() {
        sentence(39, "SOON: by CALM of how few rounds (1 .. 20) the LOG of some honest NODE gets longer (NONE).");
        dueSoon(() -> {
            Votes x = new Votes();
            x.propose(1, 0);
            return x;
        }, 2);
    }

    /** NODE 4 lags; its vote, without which there is no QUORUM, is got by a PROVED BLOCK that is under way. */
    static void soonByAProvedBlock() {
        sentence(39, "SOON: by CALM of how few rounds (1 .. 20) the LOG of some honest NODE gets longer (NONE).");
        dueSoon(() -> {
            Votes x = new Votes();
            x.nodes(5);
            for (int i = 0; i < 4; i++) x.timeout(i);
            x.lose(4);
            x.deliverAll();
            x.propose(2, 0);
            x.mode(1, 1);
            return x;
        }, 2);
    }

    /** All have committed BLOCK 1; what goes on is a branch beside it, so that no LOG gets longer. */
    static void soonOnAnotherBranch() {
        sentence(39, "the LOG of some honest NODE gets longer (NONE)");
        Votes x = Votes.liars(4);
        x.forge(x.forge(x.forge(0, 1), 2), 3);
        for (int i = 1; i < 4; i++) x.ask(i, 0);
        x.forge(x.forge(x.forge(0, 6), 7), 8);
        for (int i = 0; i < 4; i++) x.ask(i, 1);
        for (int i = 0; i < 4; i++) x.mode(i, 0);
        due("LOGS", x.audit(2), 2);
        due("soon()", x.soon(), NONE);
        due("soon() again", x.soon(), NONE);
        due("calm(20)", x.calm(20), 0);
        due("BLOCKS", x.look(3), 27);
    }

    /** SOON by the document's own words, on twins: CALM of 1, 2, .. rounds. */
    private static int soonByCalm(Supplier<Votes> made) {
        int n = made.get().look(0);
        int[] before = new int[n];
        Votes plain = made.get();
        for (int i = 0; i < n; i++) before[i] = plain.node(i, 8);
        for (int r = 1; r <= 20; r++) {
            Votes x = made.get();
            x.calm(r);
            if (isLonger(x, before)) return r;
        }
        return NONE;
    }

    private static Votes unrest(int seed) {
        Votes x = new Votes();
        int n = 4 + seed % 4;
        x.nodes(n);
        x.leaders(seed / 4 % 3);
        x.state(seed * 7919);
        if (seed % 5 == 0) x.mode(seed / 5 % n, 1);
        if (seed % 3 == 0) x.mode(seed / 3 % n, 2);
        for (int i = 0; i < 3; i++) {
            for (int j = 0; j < n; j++) if (x.node(j, 11) == 1) x.propose(j, seed);
            x.storm(10, 1 + seed % 3);
            x.timeout((seed + i) % n);
            x.turn(x.look(4) / 2);
        }
        return x;
    }

    static void soonOfUnrest() {
        sentence(39, "SOON: by CALM of how few rounds (1 .. 20) the LOG of some honest NODE gets longer (NONE).");
        for (int seed = 0; seed < 60; seed++) {
            int s = seed;
            due("soon() behind unrest " + seed, unrest(seed).soon(), soonByCalm(() -> unrest(s)));
        }
    }

    static void soonNever() {
        sentence(39, "the LOG of some honest NODE gets longer (NONE)");
        Votes x = new Votes();
        x.mode(0, 1);
        due("of four LEADERS one is missing", x.soon(), NONE);
        Votes y = new Votes();
        for (int i = 0; i < 4; i++) y.mode(i, 1);
        due("all are silent", y.soon(), NONE);
        due("of 100 BLOCKS", hundredBlocks().soon(), 1);
        Votes z = hundredBlocks();
        z.calm(20);
        due("of 100 BLOCKS, all told", z.soon(), NONE);
    }

    static void soonHonestAlone() {
        sentence(39, "the LOG of some honest NODE gets longer (NONE)");
        Votes x = Votes.liars(4);
        due("liars alone", x.soon(), NONE);
        x.mode(1, 0);
        due("NODE 1 is honest: it learns by BLOCK 4, in the fourth round", x.soon(), 4);
        x.mode(0, 0);
        due("NODE 0, too: it counts VIEW 3's marks", x.soon(), 3);
    }

    static void soonNothingStays() {
        sentence(39, "IN THOUGHT (nothing of it stays)");
        changesNothing(Votes::busy, x -> {
            for (int i = 0; i < 5; i++) x.soon();
        });
    }

    // ---------------------------------------------------------------- 40: two

    static void twoOfWhich() {
        sentence(40, "NONE if there is none such, or another what.");
        Votes x = new Votes();
        x.propose(1, 0);
        for (int b : NO_BLOCK_OF_TWO) {
            for (int w = 0; w <= 1; w++) {
                due("two(" + b + ", 0, " + w + ")", x.two(b, 0, w), NONE);
                due("two(1, " + b + ", " + w + ")", x.two(1, b, w), NONE);
                due("two(" + b + ", " + b + ", " + w + ")", x.two(b, b, w), NONE);
            }
        }
        for (int w : new int[] {MIN, -1, 2, 3, MAX}) due("two(1, 0, " + w + ")", x.two(1, 0, w), NONE);
    }

    static void twoExtends() {
        sentence(40, "a EXTENDS b: b is a, or PARENT of a EXTENDS b.");
        Votes x = branches();
        for (int b = 0; b <= 5; b++) {
            due("itself", x.two(b, b, 0), 1);
            due("BLOCK 0", x.two(b, 0, 0), 1);
            due("the other way", x.two(0, b, 0), b == 0 ? 1 : 0);
        }
        due("3 EXTENDS 1", x.two(3, 1, 0), 1);
        due("1 EXTENDS 3", x.two(1, 3, 0), 0);
        due("5 EXTENDS 2", x.two(5, 2, 0), 0);
        due("2 EXTENDS 4, of one HEIGHT", x.two(2, 4, 0), 0);
    }

    static void twoCommon() {
        sentence(40, "COMMON of BLOCKS a, b: the highest one that both EXTEND.");
        Votes x = branches();
        for (int b = 0; b <= 5; b++) {
            due("with itself", x.two(b, b, 1), b);
            due("with BLOCK 0", x.two(b, 0, 1), 0);
            due("BLOCK 0 with it", x.two(0, b, 1), 0);
        }
        due("3 and 5", x.two(3, 5, 1), 1);
        due("5 and 2", x.two(5, 2, 1), 1);
        due("2 and 3", x.two(2, 3, 1), 2);
        due("3 and 2", x.two(3, 2, 1), 2);
    }

    static void twoByParent() {
        sentence(40, "a EXTENDS b: b is a, or PARENT of a EXTENDS b.");
        Votes x = gaps();
        x.lie(1, 3, 1, 5, 0);
        due("3 EXTENDS 1", x.two(3, 1, 0), 1);
        due("3 EXTENDS 2", x.two(3, 2, 0), 1);
        due("4 EXTENDS 2", x.two(4, 2, 0), 0);
        due("COMMON of 3 and 4", x.two(3, 4, 1), 1);
        due("COMMON of 4 and 3", x.two(4, 3, 1), 1);
    }

    static void twoOf100Blocks() {
        sentence(40, "COMMON of BLOCKS a, b: the highest one that both EXTEND.");
        Votes x = hundredBlocks();
        due("99 EXTENDS 0", x.two(99, 0, 0), 1);
        due("0 EXTENDS 99", x.two(0, 99, 0), 0);
        due("COMMON of 99, 98", x.two(99, 98, 1), 98);
        due("COMMON of 1, 99", x.two(1, 99, 1), 1);
        due("100", x.two(100, 0, 0), NONE);
    }

    // ---------------------------------------------------------------- 41: would

    static void wouldOfWhich() {
        sentence(41, "WOULD VOTE. NONE if there is none such.");
        Votes x = new Votes();
        x.propose(1, 0);
        for (int i : noNodeOf(4)) due("would(" + i + ", 1)", x.would(i, 1), NONE);
        for (int b : NO_BLOCK_OF_TWO) due("would(0, " + b + ")", x.would(0, b), NONE);
        due("the first NODE", x.would(0, 1), 1);
        due("the last NODE", x.would(3, 1), 1);
    }

    static void wouldNotForBlockZero() {
        sentence(41, "WOULD a NODE VOTE for a BLOCK b (not 0)");
        Votes x = new Votes();
        for (int i = 0; i < 4; i++) due("would(" + i + ", 0)", x.would(i, 0), NONE);
        x.mode(0, 1);
        due("silent", x.would(0, 0), NONE);
    }

    static void wouldOfASilentOne() {
        sentence(41, "once more or not (1, 0; silent: 0)");
        Votes x = new Votes();
        x.propose(1, 0);
        x.mode(0, 1);
        x.mode(2, 2);
        due("silent", x.would(0, 1), 0);
        due("honest", x.would(1, 1), 1);
        due("a liar", x.would(2, 1), 1);
    }

    static void wouldOnceMore() {
        sentence(41, "that were delivered to it now, once more or not (1, 0; silent: 0)");
        Votes x = Votes.liars(4);
        x.lie(3, 1, 0, 3, 0);
        x.deliver(0);
        due("it is not in that VIEW", x.would(0, 1), 0);
        x.empty();
        x.toView(3);
        due("it is: once more", x.would(0, 1), 1);
        due("not shown it yet", x.would(1, 1), 1);
        x.lie(3, 1, 0, 3, 0);
        x.deliver(0);
        due("it has voted in that VIEW", x.would(0, 1), 0);
        due("nor for what it voted for", x.would(0, 2), 0);
        x.timeout(1);
        due("it has timed out in that VIEW", x.would(1, 1), 0);
    }

    static void wouldFollow() {
        sentence(41, "WOULD a NODE VOTE for a BLOCK b (not 0) that were delivered to it now");
        Votes x = new Votes();
        x.propose(1, 0);
        x.deliverAll();
        x.propose(2, 0);
        due("its VIEW", x.node(0, 1), 1);
        due("it would follow to VIEW 2", x.would(0, 2), 1);
        due("its VIEW stays", x.node(0, 1), 1);
        Votes y = Votes.liars(4);
        int a = y.forge(0, 1);
        due("JUSTIFY two VIEWS ahead", y.would(0, y.lie(3, 1, a, 3, 0)), 0);
        due("JUSTIFY one VIEW ahead", y.would(0, y.lie(2, 1, a, 2, 0)), 1);
        due("PARENT is not JUSTIFY", y.would(0, y.lie(2, 3, a, 2, 0)), 0);
    }

    static void wouldBySafety() {
        sentence(41, "b SAFE (it EXTENDS LOCK, or the VIEW of its JUSTIFY is above that of LOCK)");
        Votes x = branches();
        due("LOCK of 0", x.node(0, 6), 2);
        due("JUSTIFY of LOCK's VIEW", x.would(0, x.lie(0, 1, 4, 4, 0)), 0);
        due("JUSTIFY of a VIEW above", x.would(0, x.lie(0, 1, 5, 4, 0)), 1);
        due("on LOCK", x.would(0, x.lie(0, 1, 2, 4, 0)), 1);
        due("on 0", x.would(0, x.lie(0, 1, 0, 4, 0)), 0);
        due("no EVENT of it", x.event(x.look(15) - 1, 0) == 1, false);
    }

    /** LOCK is moved by JUSTIFY of b itself, ahead of the vote: BLOCK 6 on 5 takes NODE 1's LOCK to 4. */
    static void wouldByTheLockThatItBrings() {
        sentence(41, "WOULD a NODE VOTE for a BLOCK b (not 0) that were delivered to it now");
        Votes x = branches();
        due("LOCK of 1", x.node(1, 6), 0);
        due("would", x.would(1, x.lie(0, 1, 5, 4, 0)), 1);
        due("LOCK of 1 stays", x.node(1, 6), 0);
        due("HIGH of 1 stays", x.node(1, 5), 0);
    }

    static void wouldNothingStays() {
        sentence(41, "IN THOUGHT (nothing of it stays)");
        changesNothing(Votes::busy, x -> {
            for (int i = -1; i <= 4; i++) for (int b = -1; b <= 2; b++) x.would(i, b);
        });
    }

    // ---------------------------------------------------------------- 42: chain

    static void chainWhich() {
        sentence(42, "NONE if there is none such, or another what.");
        Votes x = new Votes();
        x.propose(1, 7);
        for (int b : NO_BLOCK_OF_TWO) for (int w = 0; w <= 6; w++) due("chain(" + b + ", " + w + ")", x.chain(b, w), NONE);
        for (int w : new int[] {MIN, -1, 7, 8, MAX}) {
            due("chain(0, " + w + ")", x.chain(0, w), NONE);
            due("chain(1, " + w + ")", x.chain(1, w), NONE);
        }
        dueRow("chain 0", w -> x.chain(0, w), 1, 0, 2, 1, 4, 1, 4, NONE);
        dueRow("chain 1", w -> x.chain(1, w), 2, 7, 1, 1, 0, 2, 0, NONE);
    }

    static void chainOfBlockZeroAlone() {
        sentence(42, "3 the greatest HEIGHT of these");
        Votes x = new Votes();
        dueRow("chain 0", w -> x.chain(0, w), 1, 0, 1, 0, 4, 1, 4, NONE);
        x.nodes(7);
        dueRow("chain 0 of seven", w -> x.chain(0, w), 1, 0, 1, 0, 7, 1, 7, NONE);
    }

    static void chainOf100Blocks() {
        sentence(42, "0 how many it EXTENDS (itself, too), 1 all their PAYLOADS, 2 how many BLOCKS EXTEND it (itself, too), 3 the greatest HEIGHT of these");
        Votes x = hundredBlocks();
        dueRow("chain 99", w -> x.chain(99, w), 100, 4 * 190 + 171, 1, 99, 0, 100, 0);
        dueRow("chain 0", w -> x.chain(0, w), 1, 0, 100, 99, 4, 1, 4);
        due("chain(97, 4): NODE 0 alone has it", x.chain(97, 4), 1);
        due("chain(98, 6): NODE 0's LOCK", x.chain(98, 6), 1);
        due("chain(100, 0)", x.chain(100, 0), NONE);
    }

    static void chainOfGaps() {
        sentence(42, "0 how many it EXTENDS (itself, too), 1 all their PAYLOADS, 2 how many BLOCKS EXTEND it (itself, too), 3 the greatest HEIGHT of these");
        Votes x = gaps();
        dueRow("chain 3", w -> x.chain(3, w), 4, 21, 1, 3, 0, 1, 0);
        dueRow("chain 1", w -> x.chain(1, w), 2, 5, 3, 3, 0, 2, 0);
        dueRow("chain 0", w -> x.chain(0, w), 1, 0, 4, 3, 4, 1, 4);
    }

    static void chainCommittedBehindGaps() {
        sentence(42, "4 by how many NODES it is committed");
        Votes x = Votes.liars(4);
        x.forge(x.forge(x.forge(0, 5), 6), 7);
        dueRow("committed", b -> x.chain(b, 4), 4, 1, 0, 0, NONE);
        x.ask(1, 0);
        dueRow("committed", b -> x.chain(b, 4), 4, 2, 0, 0, NONE);
    }

    static void chainInARow() {
        sentence(42, "one behind the other from itself on, BLOCK 0, too, have VIEWS in a row by PARENT (1: itself alone)");
        Votes x = Votes.liars(4);
        x.lie(1, 3, 0, 1, 0);
        x.lie(2, 3, 1, 2, 0);
        x.lie(0, 3, 2, 4, 0);
        x.lie(1, 3, 3, 5, 0);
        x.lie(2, 3, 0, 2, 0);
        due("0 alone", x.chain(0, 5), 1);
        due("1, 0", x.chain(1, 5), 2);
        due("2, 1, 0", x.chain(2, 5), 3);
        due("4 alone: 3 is missing", x.chain(3, 5), 1);
        due("5, 4", x.chain(4, 5), 2);
        due("2 alone, on 0", x.chain(5, 5), 1);
    }

    static void chainOfBranches() {
        sentence(42, "2 how many BLOCKS EXTEND it (itself, too), 3 the greatest HEIGHT of these");
        Votes x = branches();
        x.lie(0, 1, 5, 4, 0);
        dueRow("how many EXTEND", b -> x.chain(b, 2), 7, 6, 2, 1, 3, 2, 1, NONE);
        dueRow("the greatest HEIGHT", b -> x.chain(b, 3), 4, 4, 3, 3, 4, 4, 4, NONE);
    }

    static void chainCommitted() {
        sentence(42, "4 by how many NODES it is committed");
        Votes x = new Votes();
        x.calm(4);
        dueRow("committed", b -> x.chain(b, 4), 4, 4, 1, 0, 0, NONE);
        x.mode(1, 1);
        due("by a silent one, too", x.chain(2, 4), 1);
    }

    static void chainHold() {
        sentence(42, "HOLD of a BLOCK b: how many NODES that are not silent have a LOCK that EXTENDS b.");
        Votes x = new Votes();
        x.calm(3);
        due("LOCK of 0", x.node(0, 6), 2);
        due("LOCK of 1", x.node(1, 6), 1);
        dueRow("HOLD", b -> x.chain(b, 6), 4, 4, 1, 0, NONE);
        x.mode(0, 1);
        dueRow("HOLD, NODE 0 silent", b -> x.chain(b, 6), 3, 3, 0, 0, NONE);
        for (int i = 1; i < 4; i++) x.mode(i, 1);
        due("all silent", x.chain(0, 6), 0);
    }

    // ---------------------------------------------------------------- 43: image

    static void imageOfNone() {
        sentence(43, "THE IMAGE is taken (true), or gone back to (false): true; false if there is none.");
        changesNothing(Votes::busy, x -> {
            due("image(false)", x.image(false), false);
            due("image(false) again", x.image(false), false);
        });
    }

    static void imageTaken() {
        sentence(43, "THE IMAGE is taken (true), or gone back to (false): true; false if there is none.");
        Votes x = new Votes();
        due("image(true)", x.image(true), true);
        due("image(false)", x.image(false), true);
        due("image(true)", x.image(true), true);
        changesNothing(Votes::busy, y -> {
            due("image(true)", y.image(true), true);
            due("image(false)", y.image(false), true);
        });
    }

    static void imageMoreThanOnce() {
        sentence(43, "gone back to it may be more than once");
        changesNothing(Votes::busy, x -> {
            x.image(true);
            for (int i = 0; i < 3; i++) {
                x.calm(2);
                x.run(24);
                x.storm(5, 5);
                x.mode(1, 1);
                x.cut(0, 3, false);
                due("image(false)", x.image(false), true);
            }
        });
    }

    static void imageTheLatest() {
        sentence(43, "as it was when it was taken");
        Votes x = new Votes();
        x.image(true);
        x.calm(1);
        x.image(true);
        x.calm(1);
        x.image(false);
        due("BLOCKS", x.look(3), 2);
    }

    static void imageNotTheTapeNorFault() {
        sentence(43, "all that is and was told but the TAPE and fault()");
        Votes x = new Votes();
        x.planOf("lose 0;lose 1;");
        x.run(1);
        x.feed(0, 0, 0, 0, 0);
        x.image(true);
        x.planOf("calm 21;");
        x.feed(0, 0, 0, 0, 0);
        x.feed(0, 0, 0, 0, 0);
        x.image(false);
        due("fault(0)", x.fault(0), 2);
        due("fault(1)", x.fault(1), 5);
        due("the TAPE", x.end(40), true);
        due("and no more", x.end(41), false);
        due("lines", x.look(9), 2);
        due("lines that were run", x.look(10), 1);
        x.end(0);
        x.planOf("lose 0;lose 0;lose 0;");
        x.image(false);
        due("fault(0)", x.fault(0), 0);
        due("lines", x.look(9), 2);
        due("run(24)", x.run(24), 1);
    }

    static void imageWhatWasTold() {
        sentence(43, "all that is and was told but the TAPE and fault()");
        Votes x = new Votes();
        x.nodes(6);
        x.leaders(1);
        x.state(99);
        x.mode(5, 2);
        x.mode(4, 1);
        x.cut(0, 1, true);
        x.image(true);
        x.nodes(7);
        x.leaders(2);
        x.state(7);
        x.cut(5, 6, true);
        x.mode(6, 1);
        due("NODES", x.look(0), 7);
        due("image(false)", x.image(false), true);
        due("NODES", x.look(0), 6);
        due("no NODE 6", x.node(6, 0), NONE);
        due("RULE", x.look(16), 1);
        due("STATE", x.look(14), 99);
        due("silent", x.look(17), 16);
        due("liars", x.look(18), 32);
        due("couples", x.look(20), 1);
        due("reach(0)", x.reach(0), 61);
    }

    /** Rows that are full come back as they were: BLOCKS, MESSAGES, EVIDENCE, EVENTS, a LOG. */
    static void imageOfFullRows() {
        sentence(43, "THE IMAGE: all that is and was told");
        Votes x = Votes.liars(4);
        for (int b = 1; b < 100; b++) x.lie(1, 1, 0, 1, b);
        for (int i = 0; i < 3; i++) x.calm(20);
        x.fill(3, 200);
        int[] before = new int[21];
        for (int w = 0; w <= 20; w++) before[w] = x.look(w);
        due("BLOCKS", before[3], 100);
        due("MESSAGES", before[4], 200);
        due("EVIDENCE", before[6], 60);
        due("EVENTS", before[15], 100);
        x.image(true);
        x.calm(20);
        x.mode(0, 0);
        x.image(false);
        for (int w = 0; w <= 20; w++) due("look(" + w + ")", x.look(w), before[w]);
        due("the last BLOCK's PAYLOAD", x.block(99, 3), 99);
        dueRow("the last MESSAGE", w -> x.message(199, w), 3, 3, 3, 150, 0);
        due("the last line of EVIDENCE", x.evidence(59, 0), 1);
        due("the last of EVENTS", x.event(99, 0), 5);
    }

    static void imageOfForks() {
        sentence(43, "THE IMAGE: all that is and was told");
        Votes x = Votes.liars(4);
        x.forge(x.forge(x.forge(0, 1), 2), 3);
        x.forge(x.forge(x.forge(0, 6), 7), 8);
        x.image(true);
        for (int i = 0; i < 2; i++) {
            x.ask(0, 1);
            due("FORKS of 0", x.node(0, 10), 1);
            due("EVENTS", x.look(15), 9);
            x.image(false);
            due("FORKS of 0", x.node(0, 10), 0);
            due("FORKS of all", x.look(8), 0);
            due("EVENTS", x.look(15), 8);
            due("no EVENT more", x.event(8, 0), NONE);
        }
    }

    static void imageOfNodesAndBlocks() {
        sentence(43, "THE IMAGE: all that is and was told");
        Votes x = new Votes();
        x.calm(3);
        x.image(true);
        x.calm(3);
        x.timeout(0);
        x.image(false);
        dueRow("node 0", w -> x.node(0, w), 0, 4, 3, 0, 0, 3, 2, 0, 2, 1, 0, 1, 1);
        dueRow("node 3", w -> x.node(3, w), 0, 3, 3, 3, 0, 2, 1, 0, 1, 0, 0, 0, 1);
        Votes y = gaps();
        y.image(true);
        y.lie(2, 3, 3, 10, 0);
        y.image(false);
        dueRow("PARENT", b -> y.block(b, 1), NONE, 0, 1, 2, NONE);
        dueRow("JUSTIFY", b -> y.block(b, 2), 0, 0, 0, 0, NONE);
    }

    static void imageOfLogs() {
        sentence(43, "THE IMAGE: all that is and was told");
        Votes x = Votes.liars(4);
        x.forge(x.forge(x.forge(0, 1), 2), 3);
        x.forge(x.forge(x.forge(0, 6), 7), 8);
        x.image(true);
        x.lie(0, 2, 3, 50, 0);
        x.deliver(2);
        due("the last of 2", x.node(2, 9), 1);
        x.image(false);
        due("the last of 2", x.node(2, 9), 0);
        due("LOG of 2", x.log(2, 1), NONE);
        x.ask(2, 1);
        due("the last of 2", x.node(2, 9), 4);
        due("LOG of 2", x.log(2, 1), 4);
    }

    static void imageOfEvidence() {
        sentence(43, "THE IMAGE: all that is and was told");
        Votes x = Votes.liars(4);
        for (int i = 0; i < 3; i++) x.lie(1, 1, 0, 1, 0);
        x.deliver(0);
        x.deliver(3);
        due("lines", x.look(6), 1);
        x.image(true);
        x.deliver(6);
        due("lines", x.look(6), 2);
        due("BLOCKS proposed to 0", x.since(0, 4), 3);
        x.image(false);
        due("lines", x.look(6), 1);
        due("no line more", x.evidence(1, 0), NONE);
        due("BLOCKS proposed to 0", x.since(0, 4), 2);
        x.deliver(0);
        x.deliver(2);
        due("lines", x.look(6), 2);
        dueRow("line 1", w -> x.evidence(1, w), 1, 1, 1, 1, 2);
    }

    static void imageOfCounts() {
        sentence(43, "THE IMAGE: all that is and was told");
        Votes x = Votes.liars(4);
        x.cut(0, 1, true);
        x.fill(2, 200);
        x.lie(0, 2, 0, 1, 0);
        x.deliver(0);
        x.image(true);
        x.lie(3, 2, 0, 1, 0);
        x.lie(0, 2, 0, 1, 0);
        x.deliver(0);
        due("LOST", x.look(5), 3 + 3 + 3);
        due("CUT", x.look(19), 2);
        due("delivered", x.look(11), 2);
        x.image(false);
        due("LOST", x.look(5), 3);
        due("CUT", x.look(19), 1);
        due("delivered", x.look(11), 1);
        due("MESSAGES", x.look(4), 199);
        due("the first's TO", x.message(0, 1), 1);
        due("the last's TO", x.message(198, 1), 3);
    }

    static void imageOfTheLastViewAndBlock() {
        sentence(43, "THE IMAGE: all that is and was told");
        Votes x = Votes.liars(4);
        x.blocksTill(100);
        x.image(true);
        x.lie(0, 2, 0, 200, 0);
        x.lie(0, 2, 0, 1, 0);
        x.lie(0, 0, 99, 0, 0);
        x.deliverAll();
        x.certify(99);
        due("TIMEOUTS for VIEW 200", x.timeouts(0, 200), 1);
        due("MARKS for BLOCK 99", x.marks(2, 99), 3);
        due("CERTIFIED", x.block(99, 7), 1);
        x.image(false);
        due("TIMEOUTS for VIEW 200", x.timeouts(0, 200), 0);
        due("TIMEOUTS for VIEW 1", x.timeouts(0, 1), 0);
        due("MARKS for BLOCK 99", x.marks(2, 99), 0);
        due("CERTIFIED", x.block(99, 7), 0);
        due("HIGH of 2", x.node(2, 5), 0);
    }

    static void imageStaysBesideNodes() {
        sentence(43, "gone back to it may be more than once");
        Votes x = new Votes();
        x.image(true);
        x.nodes(5);
        due("image(false)", x.image(false), true);
        due("NODES", x.look(0), 4);
        x.calm(3);
        due("image(false)", x.image(false), true);
        due("BLOCKS", x.look(3), 1);
        due("nodes(7), for there is no BLOCK but 0 again", x.nodes(7), true);
    }

    static void imageInThoughtIsAnother() {
        sentence(43, "as it was when it was taken");
        Votes x = new Votes();
        x.calm(1);
        x.image(true);
        x.calm(1);
        x.soon();
        x.without(0);
        x.image(false);
        due("BLOCKS", x.look(3), 2);
    }

    // ---------------------------------------------------------------- 44: look

    static void lookWhat() {
        sentence(44, "NONE - 99999 for another what.");
        Votes x = new Votes();
        for (int w : new int[] {MIN, -1, 21, 22, MAX}) due("look(" + w + ")", x.look(w), NO_NUMBER);
        due("look(0)", x.look(0), 4);
        due("look(20)", x.look(20), 0);
    }

    static void lookFaultsAndQuorum() {
        sentence(44, "FAULTS f: n less 1, by 3. QUORUM: n less f.");
        int[][] due = {{4, 1, 3}, {5, 1, 4}, {6, 1, 5}, {7, 2, 5}};
        for (int[] row : due) {
            Votes x = new Votes();
            x.nodes(row[0]);
            dueRow("look of " + row[0], x::look, row);
        }
    }

    static void lookUnlikeLogs() {
        sentence(44, "UNLIKE LOGS: whether (1, 0) the last ones of two NODES that are not silent EXTEND one another neither way.");
        Votes x = Votes.liars(4);
        x.forge(x.forge(x.forge(0, 1), 2), 3);
        due("1 and 0: one EXTENDS the other", x.look(7), 0);
        x.forge(x.forge(x.forge(0, 6), 7), 8);
        due("1 and 4", x.look(7), 1);
        due("no FORK of a NODE", x.look(8), 0);
        x.mode(0, 1);
        due("one of the two is silent", x.look(7), 0);
        x.mode(0, 0);
        x.mode(1, 1);
        due("the other is silent", x.look(7), 0);
    }

    static void lookForks() {
        sentence(44, "8 FORKS of all");
        Votes x = Votes.liars(4);
        x.forge(x.forge(x.forge(0, 1), 2), 3);
        x.ask(2, 0);
        x.forge(x.forge(x.forge(0, 6), 7), 8);
        due("none", x.look(8), 0);
        x.ask(0, 1);
        due("of 0", x.look(8), 1);
        x.ask(2, 1);
        due("of 0 and 2", x.look(8), 2);
        int last = x.look(15) - 1;
        dueRow("the EVENT of 2", w -> x.event(last, w), 4, 2, 4);
        x.mode(2, 1);
        due("a silent one's, too", x.look(8), 2);
    }

    static void lookGreatestView() {
        sentence(44, "12 the greatest VIEW of a NODE that is not silent (none: 0)");
        Votes x = new Votes();
        due("at first", x.look(12), 1);
        x.calm(1);
        due("NODE 2's", x.look(12), 2);
        x.mode(2, 1);
        due("without it", x.look(12), 1);
        for (int i = 0; i < 4; i++) x.mode(i, 1);
        due("none", x.look(12), 0);
        Votes y = Votes.liars(4);
        y.toView(201);
        due("201", y.look(12), 201);
    }

    static void lookGreatestViewOfTheFirst() {
        sentence(44, "12 the greatest VIEW of a NODE that is not silent (none: 0)");
        Votes x = new Votes();
        x.calm(3);
        due("NODE 0's", x.look(12), 4);
        Votes y = new Votes();
        y.nodes(7);
        y.calm(5);
        due("NODE 6's, of seven", y.look(12), 6);
        dueRow("look", y::look, 7, 2, 5, 6, 0, 0, 0, 0, 0);
    }

    static void lookCertified() {
        sentence(44, "13 CERTIFIED BLOCKS");
        Votes x = new Votes();
        due("BLOCK 0", x.look(13), 1);
        x.propose(1, 0);
        due("one that is not", x.look(13), 1);
        x.deliverAll();
        due("two", x.look(13), 2);
        due("100", hundredBlocks().look(13), 100);
    }

    static void lookSets() {
        sentence(44, "17 which NODES are silent, 18 which are liars (sets)");
        Votes x = new Votes();
        x.nodes(7);
        due("none silent", x.look(17), 0);
        due("no liars", x.look(18), 0);
        for (int i = 0; i < 7; i++) {
            x.mode(i, 1);
            due("silent up to " + i, x.look(17), (2 << i) - 1);
        }
        for (int i = 6; i >= 0; i--) {
            x.mode(i, 2);
            due("liars from " + i + " on", x.look(18), 128 - (1 << i));
            due("silent below " + i, x.look(17), (1 << i) - 1);
        }
    }

    static void lookPlan() {
        sentence(44, "9 lines of the plan, 10 lines that were run of it");
        Votes x = new Votes();
        due("lines", x.look(9), 0);
        due("lines that were run", x.look(10), 0);
        x.planOf(times(24, "lose 6;"));
        due("lines", x.look(9), 24);
        x.run(24);
        due("lines that were run, all of them refused", x.look(10), 24);
        x.run(24);
        due("no more", x.look(10), 24);
    }

    static void lookCounts() {
        sentence(44, "5 how many were LOST as the 201st");
        Votes x = Votes.liars(4);
        x.fill(0, 200);
        due("of 200", x.look(5), 0);
        x.timeout(1);
        due("of a send to all", x.look(5), 4);
        x.drop(0);
        x.lose(1);
        due("what is dropped and lost is not LOST", x.look(5), 4);
        due("delivered", x.look(11), 0);
        x.storm(40, 9);
        due("nor is what a STORM drops", x.look(5), 4);
    }

    static void lookDelivered() {
        sentence(44, "11 how many were delivered");
        Votes x = new Votes();
        x.propose(1, 0);
        x.deliver(0);
        due("one", x.look(11), 1);
        x.drop(0);
        due("what is dropped is not", x.look(11), 1);
        x.storm(1, 0);
        due("by a STORM", x.look(11), 2);
        x.planOf("deliver 1;");
        x.run(1);
        due("by a plan", x.look(11), 3);
        Votes y = new Votes();
        y.calm(1);
        due("by CALM: a BLOCK to four, four marks", y.look(11), 8);
    }

    static void lookCut() {
        sentence(44, "19 how many were CUT, 20 how many couples are CUT");
        Votes x = new Votes();
        x.nodes(7);
        x.cut(0, 6, true);
        x.cut(6, 5, true);
        due("couples", x.look(20), 2);
        due("CUT", x.look(19), 0);
        x.timeout(6);
        due("CUT", x.look(19), 2);
        x.cut(0, 6, false);
        due("couples", x.look(20), 1);
        due("CUT stays", x.look(19), 2);
    }

    static void asksOnly() {
        sentence(44, "What 0 NODES, 1 FAULTS, 2 QUORUM");
        changesNothing(Votes::busy, x -> {
            for (int w = -1; w <= 21; w++) x.look(w);
            for (int w = -1; w <= 7; w++) {
                x.audit(w);
                x.best(w);
                x.chain(1, w);
                x.since(0, w);
                x.two(1, 0, w);
                x.path(1, w);
                x.log(0, w);
                x.block(1, w);
                x.message(0, w);
                x.evidence(0, w);
                x.event(0, w);
                x.pending(2, w);
                x.ledger(1, true, w);
                x.ledger(1, false, w);
                x.reach(w);
                x.marks(2, w);
                x.markers(2, w);
                x.timeouts(2, w);
            }
        });
    }
}
