import java.util.Arrays;

/** Chained votes with rotating leaders, as ../shared/DOC.md tells them; README.md says how to use it. */
public final class ChainVotes {
    public static final int NONE = -1;

    private static final int NO_NUMBER = NONE - 99999;
    private static final int NO_MESSAGE = NONE - 1;

    private static final int MIN_NODES = 4;
    private static final int MAX_NODES = 7;
    private static final int MAX_BLOCKS = 100;
    private static final int MAX_VIEW = 200;
    private static final int MAX_PAYLOAD = 999;
    private static final int MAX_MESSAGES = 200;
    private static final int MAX_EVIDENCE = 60;
    private static final int MAX_EVENTS = 100;
    private static final int MAX_ROUNDS = 20;
    private static final int MAX_STORM = 40;
    private static final int MAX_TAPE = 400;
    private static final int MAX_LINES = 24;
    private static final int ACCOUNTS = 5;

    /** Far above the 400 deliveries that a full row can lead to, each BLOCK of it sending one mark. */
    private static final int ALL = 1000000;

    private static final int HONEST = 0;
    private static final int SILENT = 1;
    private static final int LIAR = 2;

    private static final int KIND_BLOCK = 1;
    private static final int KIND_MARK = 2;
    private static final int KIND_TIMEOUT = 3;

    private static final int TWO_BLOCKS = 1;
    private static final int TWO_MARKS = 2;

    private static final int EVENT_VOTED = 0;
    private static final int EVENT_UNSAFE = 1;
    private static final int EVENT_QUORUM = 2;
    private static final int EVENT_COMMITTED = 3;
    private static final int EVENT_FORK = 4;
    private static final int EVENT_PROOF = 5;

    private static final int OP_PROPOSE = 1;
    private static final int OP_DELIVER = 2;
    private static final int OP_DROP = 3;
    private static final int OP_LOSE = 4;
    private static final int OP_TURN = 5;
    private static final int OP_TIMEOUT = 6;
    private static final int OP_CALM = 7;
    private static final int OP_LIE = 8;
    private static final int OP_LIE_MARK = 9;
    private static final int OP_LIE_BLOCK = 10;
    private static final int OP_LIE_TIMEOUT = 11;

    private final World world;
    private final Tape tape;
    private final Accounts accounts;
    // Most runs need neither of these two, so each is made when it is first asked for, and used again.
    private World kept;
    private World thought;

    public ChainVotes() {
        world = new World();
        tape = new Tape();
        accounts = new Accounts();
        kept = null;
        thought = null;
    }

    public boolean nodes(int n) {
        if (n < MIN_NODES || n > MAX_NODES || !world.isUntouched()) {
            return false;
        }
        world.beginWith(n);
        return true;
    }

    public boolean mode(int node, int m) {
        if (!world.hasNode(node) || m < HONEST || m > LIAR) {
            return false;
        }
        world.members[node].mode = m;
        return true;
    }

    public int propose(int node, int payload) {
        return world.proposeBy(node, payload);
    }

    public boolean timeout(int node) {
        return world.timeOutBy(node);
    }

    public int lie(int node, int what, int a, int v, int payload) {
        return world.lieBy(node, what, a, v, payload);
    }

    public int deliver(int k) {
        if (!world.net.has(k)) {
            return NONE;
        }
        int kind = Net.kindOf(world.net.at(k));
        world.deliverSome(k, 1);
        return kind;
    }

    public int drop(int k) {
        return world.net.has(k) ? Net.kindOf(world.net.take(k)) : NONE;
    }

    public int lose(int node) {
        return world.hasNode(node) ? world.net.takeAllTo(node) : NONE;
    }

    public int leaders(int rule) {
        if (rule < 0 || rule > 2 || !world.isUntouched()) {
            return NONE;
        }
        int before = world.rule;
        world.rule = rule;
        return before;
    }

    public boolean cut(int a, int b, boolean is) {
        if (!world.hasNode(a) || !world.hasNode(b) || a == b) {
            return false;
        }
        world.net.setCut(a, b, is);
        return true;
    }

    public int reach(int node) {
        return world.hasNode(node) ? world.everybody() & ~world.net.cuts[node] : NONE;
    }

    public int since(int node, int what) {
        return world.hasNode(node) ? Survey.distance(world, world.members[node], what) : NO_NUMBER;
    }

    public int state(int v) {
        int before = world.draws;
        world.draws = v;
        return before;
    }

    public boolean ask(int node, int other) {
        if (!world.isAwake(node) || !world.isAwake(other) || node == other) {
            return false;
        }
        world.askAnother(node, other);
        return true;
    }

    public int storm(int n, int d) {
        if (n < 1 || n > MAX_STORM || d < 0 || d > 9) {
            return NONE;
        }
        return world.stormOf(n, d);
    }

    public boolean turn(int m) {
        return world.net.turnFirst(m);
    }

    public int calm(int r) {
        return r < 1 || r > MAX_ROUNDS ? NONE : world.calmRounds(r);
    }

    public int feed(int a, int b, int c, int d, int e) {
        if (tape.length + 20 > MAX_TAPE) {
            return NONE;
        }
        tape.write(a);
        tape.write(b);
        tape.write(c);
        tape.write(d);
        tape.write(e);
        return tape.length;
    }

    public boolean end(int n) {
        if (n < 0 || n > tape.length) {
            return false;
        }
        tape.length = n;
        return true;
    }

    public int plan() {
        if (!tape.read()) {
            return NONE;
        }
        world.script.copyFrom(tape.draft);
        return world.script.lines;
    }

    public int fault(int what) {
        switch (what) {
            case 0: return tape.fault;
            case 1: return tape.place;
            default: return NONE;
        }
    }

    public int run(int k) {
        if (k < 1 || k > MAX_LINES) {
            return NONE;
        }
        int done = 0;
        for (int i = 0; i < k && world.script.ran < world.script.lines; i++) {
            int line = world.script.ran;
            world.script.ran = line + 1;
            if (world.runLine(line)) {
                done++;
            }
        }
        return done;
    }

    public int node(int node, int what) {
        return world.hasNode(node) ? Survey.ofNode(world, node, what) : NONE;
    }

    public int log(int node, int i) {
        if (!world.hasNode(node) || i < 0 || i >= world.members[node].logSize) {
            return NONE;
        }
        return world.members[node].logged[i];
    }

    public int block(int b, int what) {
        return world.blocks.has(b) ? Survey.ofBlock(world.blocks, b, what) : NONE;
    }

    public int marks(int node, int b) {
        return hasBoth(node, b) ? Integer.bitCount(world.members[node].markers[b]) : NONE;
    }

    public int timeouts(int node, int v) {
        if (!world.hasNode(node) || v < 1 || v > MAX_VIEW) {
            return NONE;
        }
        return Integer.bitCount(world.members[node].timers[v]);
    }

    public int message(int i, int what) {
        return world.net.has(i) ? Survey.ofMessage(world.net.at(i), what) : NO_MESSAGE;
    }

    public int evidence(int i, int what) {
        return world.evidence.at(i, what, 5);
    }

    public int event(int i, int what) {
        return world.events.at(i, what, 3);
    }

    public int ledger(int of, boolean block, int a) {
        if (a < 0 || a >= ACCOUNTS) {
            return NONE;
        }
        if (block) {
            return world.blocks.has(of) ? accounts.behind(world.blocks, of, a) : NONE;
        }
        // A LOG is just the CHAIN of its last BLOCK.
        return world.hasNode(of) ? accounts.behind(world.blocks, world.members[of].lastLogged(), a) : NONE;
    }

    public int without(int node) {
        if (!world.hasNode(node)) {
            return NONE;
        }
        World imagined = imagine();
        imagined.members[node].mode = SILENT;
        return imagined.roundsTillMore();
    }

    public int audit(int what) {
        switch (what) {
            case 0: return Survey.rivalCertificates(world.blocks);
            case 1: return Survey.accusedNodes(world);
            case 2: return Survey.commonLog(world);
            case 3: return Survey.longestLog(world);
            case 4: return Survey.strayBlocks(world);
            default: return NONE;
        }
    }

    public int pending(int node, int kind) {
        if (!world.hasNode(node) || kind < 0 || kind > KIND_TIMEOUT) {
            return NONE;
        }
        return world.net.countTo(node, kind);
    }

    public int path(int b, int i) {
        if (!world.blocks.has(b) || i < 0 || i > world.blocks.height[b]) {
            return NONE;
        }
        return world.blocks.ancestorOfHeight(b, i);
    }

    public int markers(int node, int b) {
        return hasBoth(node, b) ? world.members[node].markers[b] : NONE;
    }

    public int best(int what) {
        switch (what) {
            case 0: return Survey.highestCertified(world.blocks);
            case 1: return Survey.highestLock(world);
            case 2: return Survey.lowestHigh(world);
            case 3: return Survey.highestLogged(world);
            default: return NONE;
        }
    }

    public int soon() {
        return imagine().roundsTillMore();
    }

    public int two(int a, int b, int what) {
        if (!world.blocks.has(a) || !world.blocks.has(b)) {
            return NONE;
        }
        switch (what) {
            case 0: return Survey.flag(world.blocks.reaches(a, b));
            case 1: return world.blocks.commonOf(a, b);
            default: return NONE;
        }
    }

    public int would(int node, int b) {
        if (!hasBoth(node, b) || b == 0) {
            return NONE;
        }
        return Survey.flag(world.wouldVote(world.members[node], b));
    }

    public int chain(int b, int what) {
        return world.blocks.has(b) ? Survey.ofChain(world, b, what) : NONE;
    }

    public boolean image(boolean taken) {
        if (taken) {
            if (kept == null) {
                kept = new World();
            }
            kept.copyFrom(world);
            return true;
        }
        if (kept == null) {
            return false;
        }
        world.copyFrom(kept);
        return true;
    }

    public int look(int what) {
        return Survey.ofWorld(world, what);
    }

    private boolean hasBoth(int node, int b) {
        return world.hasNode(node) && world.blocks.has(b);
    }

    private World imagine() {
        if (thought == null) {
            thought = new World();
        }
        thought.copyFrom(world);
        return thought;
    }

    /** The BLOCKS as they came. A PARENT came ahead of its child, so its number is always less. */
    private static final class Blocks {
        int count;
        final int[] view = new int[MAX_BLOCKS];
        final int[] parent = new int[MAX_BLOCKS];
        final int[] justify = new int[MAX_BLOCKS];
        final int[] payload = new int[MAX_BLOCKS];
        final int[] by = new int[MAX_BLOCKS];
        final int[] height = new int[MAX_BLOCKS];
        final int[] proved = new int[MAX_BLOCKS];
        final int[] certified = new int[MAX_BLOCKS];

        Blocks() {
            count = 1;
            parent[0] = NONE;
            by[0] = NONE;
            certified[0] = 1;
        }

        void copyFrom(Blocks other) {
            count = other.count;
            System.arraycopy(other.view, 0, view, 0, MAX_BLOCKS);
            System.arraycopy(other.parent, 0, parent, 0, MAX_BLOCKS);
            System.arraycopy(other.justify, 0, justify, 0, MAX_BLOCKS);
            System.arraycopy(other.payload, 0, payload, 0, MAX_BLOCKS);
            System.arraycopy(other.by, 0, by, 0, MAX_BLOCKS);
            System.arraycopy(other.height, 0, height, 0, MAX_BLOCKS);
            System.arraycopy(other.proved, 0, proved, 0, MAX_BLOCKS);
            System.arraycopy(other.certified, 0, certified, 0, MAX_BLOCKS);
        }

        boolean has(int b) {
            return b >= 0 && b < count;
        }

        boolean isCertified(int b) {
            return has(b) && certified[b] == 1;
        }

        /** The caller has seen that there is room for one more. */
        int add(int itsView, int itsParent, int itsJustify, int itsPayload, int maker, int isProved) {
            int b = count;
            view[b] = itsView;
            parent[b] = itsParent;
            justify[b] = itsJustify;
            payload[b] = itsPayload;
            by[b] = maker;
            height[b] = height[itsParent] + 1;
            proved[b] = isProved;
            certified[b] = 0;
            count = b + 1;
            return b;
        }

        /** Whether a EXTENDS b. */
        boolean reaches(int a, int b) {
            int x = a;
            for (int step = 0; step < MAX_BLOCKS && x > b; step++) {
                x = parent[x];
            }
            return x == b;
        }

        int ancestorOfHeight(int b, int wanted) {
            int x = b;
            for (int step = 0; step < MAX_BLOCKS && height[x] > wanted; step++) {
                x = parent[x];
            }
            return x;
        }

        /** The later of two BLOCKS is never one that the earlier EXTENDS, so it can step back. */
        int commonOf(int a, int b) {
            int x = a;
            int y = b;
            for (int step = 0; step < 2 * MAX_BLOCKS && x != y; step++) {
                if (x > y) {
                    x = parent[x];
                } else {
                    y = parent[y];
                }
            }
            return x;
        }

        /** How many BLOCKS from b back have VIEWS in a row. */
        int viewsInARow(int b) {
            int x = b;
            int found = 1;
            for (int step = 0; step < MAX_BLOCKS && x > 0 && view[x] == view[parent[x]] + 1; step++) {
                x = parent[x];
                found++;
            }
            return found;
        }

        /** The BLOCK that a certificate of c commits, three in a row; 0 if it commits none. */
        int committedBy(int c) {
            int d = justify[c];
            int e = justify[d];
            boolean inOneLine = parent[c] == d && parent[d] == e;
            boolean inARow = view[c] == view[d] + 1 && view[d] == view[e] + 1;
            return inOneLine && inARow ? e : 0;
        }
    }

    /** A NODE. Its LOG is the CHAIN of its last BLOCK, so the i-th BLOCK of the LOG has HEIGHT i. */
    private static final class Member {
        int mode;
        int view;
        int voted;
        int proposed;
        int timed;
        int high;
        int lock;
        int proof;
        int forks;
        int logSize;
        int seenCount;
        final int[] logged = new int[MAX_BLOCKS];
        /** The BLOCKS that were proposed to it, in the order in which they were. */
        final int[] seen = new int[MAX_BLOCKS];
        /** For each BLOCK the set of NODES whose MARKS it has noted. */
        final int[] markers = new int[MAX_BLOCKS];
        /** For each VIEW the set of NODES whose TIMEOUTS it has noted. */
        final int[] timers = new int[MAX_VIEW + 1];

        Member() {
            view = 1;
            logSize = 1;
        }

        void reset() {
            mode = HONEST;
            view = 1;
            voted = 0;
            proposed = 0;
            timed = 0;
            high = 0;
            lock = 0;
            proof = 0;
            forks = 0;
            logSize = 1;
            seenCount = 0;
            Arrays.fill(logged, 0);
            Arrays.fill(seen, 0);
            Arrays.fill(markers, 0);
            Arrays.fill(timers, 0);
        }

        void copyFrom(Member other) {
            mode = other.mode;
            view = other.view;
            voted = other.voted;
            proposed = other.proposed;
            timed = other.timed;
            high = other.high;
            lock = other.lock;
            proof = other.proof;
            forks = other.forks;
            logSize = other.logSize;
            seenCount = other.seenCount;
            System.arraycopy(other.logged, 0, logged, 0, MAX_BLOCKS);
            System.arraycopy(other.seen, 0, seen, 0, MAX_BLOCKS);
            System.arraycopy(other.markers, 0, markers, 0, MAX_BLOCKS);
            System.arraycopy(other.timers, 0, timers, 0, MAX_VIEW + 1);
        }

        int lastLogged() {
            return logged[logSize - 1];
        }

        boolean hasLogged(Blocks blocks, int b) {
            int place = blocks.height[b];
            return place < logSize && logged[place] == b;
        }

        /** The first other BLOCK of b's VIEW that was proposed to it, or NONE. */
        int seenRival(Blocks blocks, int b) {
            for (int i = 0; i < seenCount; i++) {
                if (seen[i] != b && blocks.view[seen[i]] == blocks.view[b]) {
                    return seen[i];
                }
            }
            return NONE;
        }

        void see(int b) {
            for (int i = 0; i < seenCount; i++) {
                if (seen[i] == b) {
                    return;
                }
            }
            if (seenCount < MAX_BLOCKS) {
                seen[seenCount] = b;
                seenCount++;
            }
        }

        /** The least other BLOCK of b's VIEW for which it has a mark of that NODE, or NONE. */
        int markedRival(Blocks blocks, int voter, int b) {
            for (int x = 1; x < blocks.count; x++) {
                if (x != b && blocks.view[x] == blocks.view[b] && (markers[x] >> voter & 1) == 1) {
                    return x;
                }
            }
            return NONE;
        }
    }

    /** THE NET: a ring of MESSAGES, each packed into one int, so that the first one is cheap to take. */
    private static final class Net {
        int count;
        int head;
        int lost;
        int cutOff;
        int delivered;
        final int[] ring = new int[MAX_MESSAGES];
        /** For each NODE the set of those that it is CUT from. */
        final int[] cuts = new int[MAX_NODES];

        void copyFrom(Net other) {
            count = other.count;
            head = other.head;
            lost = other.lost;
            cutOff = other.cutOff;
            delivered = other.delivered;
            System.arraycopy(other.ring, 0, ring, 0, MAX_MESSAGES);
            System.arraycopy(other.cuts, 0, cuts, 0, MAX_NODES);
        }

        static int senderOf(int message) {
            return message >> 20 & 7;
        }

        static int targetOf(int message) {
            return message >> 17 & 7;
        }

        static int kindOf(int message) {
            return message >> 15 & 3;
        }

        static int subjectOf(int message) {
            return message >> 7 & 255;
        }

        /** HIGH is held with one added, since it may be NONE. */
        static int highOf(int message) {
            return (message & 127) - 1;
        }

        boolean has(int k) {
            return k >= 0 && k < count;
        }

        int at(int k) {
            return ring[(head + k) % MAX_MESSAGES];
        }

        private void put(int k, int message) {
            ring[(head + k) % MAX_MESSAGES] = message;
        }

        boolean isCut(int a, int b) {
            return (cuts[a] >> b & 1) == 1;
        }

        void setCut(int a, int b, boolean is) {
            cuts[a] = is ? cuts[a] | 1 << b : cuts[a] & ~(1 << b);
            cuts[b] = is ? cuts[b] | 1 << a : cuts[b] & ~(1 << a);
        }

        void send(int from, int to, int kind, int subject, int high) {
            if (isCut(from, to)) {
                cutOff++;
            } else if (count >= MAX_MESSAGES) {
                lost++;
            } else {
                put(count, from << 20 | to << 17 | kind << 15 | subject << 7 | high + 1);
                count++;
            }
        }

        /** Takes the k-th MESSAGE out of the row; the caller has seen that there is one. */
        int take(int k) {
            int message = at(k);
            if (k == 0) {
                head = (head + 1) % MAX_MESSAGES;
            } else {
                for (int i = k; i < count - 1; i++) {
                    put(i, at(i + 1));
                }
            }
            count--;
            return message;
        }

        int takeFirst(int most) {
            int taken = Math.min(most, count);
            head = (head + taken) % MAX_MESSAGES;
            count -= taken;
            return taken;
        }

        int takeAllTo(int node) {
            int left = 0;
            for (int i = 0; i < count; i++) {
                int message = at(i);
                if (targetOf(message) != node) {
                    put(left, message);
                    left++;
                }
            }
            int gone = count - left;
            count = left;
            return gone;
        }

        /** Turned about whole, the first m stand last and backwards; the others are then turned again. */
        boolean turnFirst(int m) {
            if (m < 0 || m > count) {
                return false;
            }
            reverseFirst(count);
            reverseFirst(count - m);
            return true;
        }

        private void reverseFirst(int length) {
            for (int i = 0; i < length / 2; i++) {
                int message = at(i);
                put(i, at(length - 1 - i));
                put(length - 1 - i, message);
            }
        }

        /** How many MESSAGES of a KIND (0: of all) go to a NODE. */
        int countTo(int node, int kind) {
            int found = 0;
            for (int i = 0; i < count; i++) {
                int message = at(i);
                if (targetOf(message) == node && (kind == 0 || kindOf(message) == kind)) {
                    found++;
                }
            }
            return found;
        }
    }

    /** Lines of five numbers, up to a limit; what comes behind the last one is not kept. */
    private static final class Book {
        final int limit;
        int count;
        final int[] cells;

        Book(int most) {
            limit = most;
            cells = new int[5 * most];
        }

        void copyFrom(Book other) {
            count = other.count;
            System.arraycopy(other.cells, 0, cells, 0, Math.min(cells.length, other.cells.length));
        }

        void add(int a, int b, int c, int d, int e) {
            if (count >= limit) {
                return;
            }
            int i = 5 * count;
            cells[i] = a;
            cells[i + 1] = b;
            cells[i + 2] = c;
            cells[i + 3] = d;
            cells[i + 4] = e;
            count++;
        }

        boolean has(int a, int b, int c, int d, int e) {
            for (int i = 0; i < 5 * count; i += 5) {
                boolean sameWho = cells[i] == a && cells[i + 1] == b && cells[i + 2] == c;
                if (sameWho && cells[i + 3] == d && cells[i + 4] == e) {
                    return true;
                }
            }
            return false;
        }

        /** A line's number, of which the first so many are asked for; NONE if there is none such. */
        int at(int line, int what, int width) {
            if (line < 0 || line >= count || what < 0 || what >= width) {
                return NONE;
            }
            return cells[5 * line + what];
        }
    }

    /** A plan: lines of an order and its numbers, and how many of them were run. */
    private static final class Script {
        int lines;
        int ran;
        final int[] order = new int[MAX_LINES];
        final int[] first = new int[MAX_LINES];
        final int[] second = new int[MAX_LINES];
        final int[] third = new int[MAX_LINES];

        void copyFrom(Script other) {
            lines = other.lines;
            ran = other.ran;
            System.arraycopy(other.order, 0, order, 0, MAX_LINES);
            System.arraycopy(other.first, 0, first, 0, MAX_LINES);
            System.arraycopy(other.second, 0, second, 0, MAX_LINES);
            System.arraycopy(other.third, 0, third, 0, MAX_LINES);
        }

        void clear() {
            lines = 0;
            ran = 0;
        }

        boolean isFull() {
            return lines >= MAX_LINES;
        }

        void add(int op, int a, int b, int c) {
            if (isFull()) {
                return;
            }
            order[lines] = op;
            first[lines] = a;
            second[lines] = b;
            third[lines] = c;
            lines++;
        }
    }

    /** All that is and was told but the TAPE: what an image keeps, and what thought tries out. */
    private static final class World {
        int size;
        int rule;
        int draws;
        final Blocks blocks = new Blocks();
        final Member[] members = new Member[MAX_NODES];
        final Net net = new Net();
        final Book evidence = new Book(MAX_EVIDENCE);
        final Book events = new Book(MAX_EVENTS);
        final Script script = new Script();

        World() {
            size = MIN_NODES;
            for (int i = 0; i < MAX_NODES; i++) {
                members[i] = new Member();
            }
        }

        void copyFrom(World other) {
            size = other.size;
            rule = other.rule;
            draws = other.draws;
            blocks.copyFrom(other.blocks);
            for (int i = 0; i < MAX_NODES; i++) {
                members[i].copyFrom(other.members[i]);
            }
            net.copyFrom(other.net);
            evidence.copyFrom(other.evidence);
            events.copyFrom(other.events);
            script.copyFrom(other.script);
        }

        boolean isUntouched() {
            return net.count == 0 && blocks.count == 1;
        }

        void beginWith(int n) {
            size = n;
            for (int i = 0; i < MAX_NODES; i++) {
                members[i].reset();
                net.cuts[i] = 0;
            }
        }

        boolean hasNode(int node) {
            return node >= 0 && node < size;
        }

        boolean isAwake(int node) {
            return hasNode(node) && members[node].mode != SILENT;
        }

        int everybody() {
            return (1 << size) - 1;
        }

        int faults() {
            return (size - 1) / 3;
        }

        int quorum() {
            return size - faults();
        }

        int leaderOf(int view) {
            switch (rule) {
                case 1: return view / 2 % size;
                case 2: return view * view % size;
                default: return view % size;
            }
        }

        int draw(int m) {
            draws = 1664525 * draws + 1013904223;
            return m > 0 ? (draws >>> 8) % m : 0;
        }

        private void sendToAll(int from, int kind, int subject, int high) {
            for (int to = 0; to < size; to++) {
                net.send(from, to, kind, subject, high);
            }
        }

        private void sendMark(int from, int b) {
            net.send(from, leaderOf(blocks.view[b] + 1), KIND_MARK, b, NONE);
        }

        // What NODES do by themselves.

        boolean canPropose(int node) {
            if (!isAwake(node) || blocks.count >= MAX_BLOCKS) {
                return false;
            }
            Member m = members[node];
            boolean isItsTurn = m.view <= MAX_VIEW && leaderOf(m.view) == node && m.proposed < m.view;
            boolean hasGround = m.view == 1 || blocks.view[m.high] == m.view - 1 || m.proof >= m.view - 1;
            return isItsTurn && hasGround;
        }

        int proposeBy(int node, int payload) {
            if (payload < 0 || payload > MAX_PAYLOAD || !canPropose(node)) {
                return NONE;
            }
            Member m = members[node];
            int proved = m.proof >= m.view - 1 ? 1 : 0;
            int b = blocks.add(m.view, m.high, m.high, payload, node, proved);
            m.proposed = m.view;
            sendToAll(node, KIND_BLOCK, b, NONE);
            return b;
        }

        boolean canTimeOut(int node) {
            return isAwake(node) && members[node].view <= MAX_VIEW && members[node].timed < members[node].view;
        }

        boolean timeOutBy(int node) {
            if (!canTimeOut(node)) {
                return false;
            }
            Member m = members[node];
            sendToAll(node, KIND_TIMEOUT, m.view, m.high);
            m.timed = m.view;
            m.voted = Math.max(m.voted, m.view);
            return true;
        }

        int lieBy(int node, int what, int a, int view, int payload) {
            if (!hasNode(node) || members[node].mode != LIAR || !blocks.has(a)) {
                return NONE;
            }
            switch (what) {
                case 0: return lieMark(node, a);
                case 1: return blocks.isCertified(a) ? lieBlock(node, a, a, view, payload) : NONE;
                case 2: return lieTimeout(node, a, view);
                case 3: return lieBlock(node, a, 0, view, payload);
                default: return NONE;
            }
        }

        private int lieMark(int node, int a) {
            if (a == 0) {
                return NONE;
            }
            sendMark(node, a);
            return 0;
        }

        private int lieBlock(int node, int parent, int justify, int view, int payload) {
            if (view <= blocks.view[parent] || view > MAX_VIEW || leaderOf(view) != node) {
                return NONE;
            }
            if (payload < 0 || payload > MAX_PAYLOAD || blocks.count >= MAX_BLOCKS) {
                return NONE;
            }
            int b = blocks.add(view, parent, justify, payload, node, 0);
            sendToAll(node, KIND_BLOCK, b, NONE);
            return b;
        }

        private int lieTimeout(int node, int a, int view) {
            if (view < 1 || view > MAX_VIEW || !blocks.isCertified(a)) {
                return NONE;
            }
            sendToAll(node, KIND_TIMEOUT, view, a);
            return 0;
        }

        void askAnother(int node, int other) {
            Member m = members[node];
            learn(node, members[other].high);
            m.proof = Math.max(m.proof, members[other].proof);
            m.view = Math.max(m.view, Math.max(m.proof, blocks.view[m.high]) + 1);
        }

        // What MESSAGES do to NODES.

        /** Delivers the k-th MESSAGE so many times, as long as there is one: how many it were. */
        int deliverSome(int k, int times) {
            int done = 0;
            for (int i = 0; i < times && net.has(k); i++) {
                int message = net.take(k);
                int node = Net.targetOf(message);
                int subject = Net.subjectOf(message);
                net.delivered++;
                done++;
                if (!isAwake(node)) {
                    continue;
                }
                switch (Net.kindOf(message)) {
                    case KIND_BLOCK:
                        takeBlock(node, subject);
                        break;
                    case KIND_MARK:
                        takeMark(node, Net.senderOf(message), subject);
                        break;
                    default:
                        takeTimeout(node, Net.senderOf(message), subject, Net.highOf(message));
                        break;
                }
            }
            return done;
        }

        private void takeBlock(int node, int b) {
            Member m = members[node];
            accuse(TWO_BLOCKS, blocks.by[b], node, m.seenRival(blocks, b), b);
            m.see(b);
            learn(node, blocks.justify[b]);
            m.view = viewAfter(m, b);
            if (!isDue(m, b, m.view)) {
                return;
            }
            if (!isSafe(b, m.lock)) {
                events.add(EVENT_UNSAFE, node, b, NONE, NONE);
                return;
            }
            m.voted = m.view;
            events.add(EVENT_VOTED, node, b, NONE, NONE);
            sendMark(node, b);
        }

        private void takeMark(int node, int voter, int b) {
            Member m = members[node];
            int view = blocks.view[b];
            boolean isNoted = (m.markers[b] >> voter & 1) == 1;
            if (isNoted || leaderOf(view + 1) != node) {
                return;
            }
            accuse(TWO_MARKS, voter, node, m.markedRival(blocks, voter, b), b);
            m.markers[b] |= 1 << voter;
            if (Integer.bitCount(m.markers[b]) != quorum()) {
                return;
            }
            blocks.certified[b] = 1;
            events.add(EVENT_QUORUM, node, b, NONE, NONE);
            learn(node, b);
            m.view = Math.max(m.view, view + 1);
        }

        private void takeTimeout(int node, int who, int view, int high) {
            Member m = members[node];
            learn(node, high);
            if ((m.timers[view] >> who & 1) == 1) {
                return;
            }
            m.timers[view] |= 1 << who;
            if (Integer.bitCount(m.timers[view]) != quorum()) {
                return;
            }
            if (view > m.proof) {
                m.proof = view;
                events.add(EVENT_PROOF, node, view, NONE, NONE);
            }
            m.view = Math.max(m.view, view + 1);
        }

        private void learn(int node, int c) {
            Member m = members[node];
            if (blocks.view[c] > blocks.view[m.high]) {
                m.high = c;
            }
            m.lock = lockAfter(m, c);
            int e = blocks.committedBy(c);
            if (e != 0) {
                commit(node, e);
            }
        }

        private void commit(int node, int e) {
            Member m = members[node];
            int last = m.lastLogged();
            if (!blocks.reaches(e, last)) {
                if (!blocks.reaches(last, e)) {
                    m.forks++;
                    events.add(EVENT_FORK, node, e, NONE, NONE);
                }
                return;
            }
            int before = m.logSize;
            int x = e;
            for (int step = 0; step < MAX_BLOCKS && x != last; step++) {
                m.logged[blocks.height[x]] = x;
                x = blocks.parent[x];
            }
            m.logSize = blocks.height[e] + 1;
            for (int i = before; i < m.logSize; i++) {
                events.add(EVENT_COMMITTED, node, m.logged[i], NONE, NONE);
            }
        }

        private void accuse(int kind, int whom, int node, int rival, int b) {
            if (rival != NONE && !evidence.has(kind, whom, node, rival, b)) {
                evidence.add(kind, whom, node, rival, b);
            }
        }

        private int lockAfter(Member m, int c) {
            int d = blocks.justify[c];
            return blocks.view[d] > blocks.view[m.lock] ? d : m.lock;
        }

        /** In which VIEW a NODE is once b has come to it. */
        private int viewAfter(Member m, int b) {
            int view = blocks.view[b];
            boolean isGrounded = blocks.view[blocks.justify[b]] == view - 1
                || blocks.proved[b] == 1 || m.proof >= view - 1;
            return view > m.view && isGrounded ? view : m.view;
        }

        /** Whether all but safety speaks for a vote of a NODE that is in that VIEW. */
        private boolean isDue(Member m, int b, int view) {
            return blocks.view[b] == view && view > m.voted && blocks.parent[b] == blocks.justify[b];
        }

        private boolean isSafe(int b, int lock) {
            return blocks.reaches(b, lock) || blocks.view[blocks.justify[b]] > blocks.view[lock];
        }

        boolean wouldVote(Member m, int b) {
            int lock = lockAfter(m, blocks.justify[b]);
            return m.mode != SILENT && isDue(m, b, viewAfter(m, b)) && isSafe(b, lock);
        }

        // What happens by the row.

        int stormOf(int n, int d) {
            int done = 0;
            for (int i = 0; i < n && net.count > 0; i++) {
                int k = draw(net.count);
                if (draw(10) < d) {
                    net.take(k);
                } else {
                    done += deliverSome(k, 1);
                }
            }
            return done;
        }

        int calmRounds(int rounds) {
            int before = loggedByAll();
            for (int round = 0; round < rounds; round++) {
                deliverSome(0, ALL);
                goOn(round);
            }
            deliverSome(0, ALL);
            return loggedByAll() - before;
        }

        /** In an emptied NET: who can PROPOSE does, and if nobody does, who can TIME OUT does. */
        private void goOn(int round) {
            boolean isProposed = false;
            for (int node = 0; node < size; node++) {
                isProposed |= proposeBy(node, round) != NONE;
            }
            for (int node = 0; node < size && !isProposed; node++) {
                timeOutBy(node);
            }
        }

        /** By how few CALM rounds an honest LOG gets longer: one round more goes on where one less ended. */
        int roundsTillMore() {
            int before = loggedByHonest();
            deliverSome(0, ALL);
            for (int round = 0; round < MAX_ROUNDS; round++) {
                goOn(round);
                deliverSome(0, ALL);
                if (loggedByHonest() > before) {
                    return round + 1;
                }
            }
            return NONE;
        }

        private int loggedByAll() {
            int sum = 0;
            for (int i = 0; i < size; i++) {
                sum += members[i].logSize;
            }
            return sum;
        }

        private int loggedByHonest() {
            int sum = 0;
            for (int i = 0; i < size; i++) {
                sum += members[i].mode == HONEST ? members[i].logSize : 0;
            }
            return sum;
        }

        /** Does what a line of the plan says: whether it was not refused. */
        boolean runLine(int line) {
            int a = script.first[line];
            int b = script.second[line];
            switch (script.order[line]) {
                case OP_PROPOSE: return proposeBy(a, b) != NONE;
                case OP_DELIVER: return deliverSome(0, a) > 0;
                case OP_DROP: return net.takeFirst(a) > 0;
                case OP_LOSE: return hasNode(a) && net.takeAllTo(a) >= 0;
                case OP_TURN: return net.turnFirst(a);
                case OP_TIMEOUT: return timeOutBy(a);
                case OP_CALM: return calmRounds(a) >= 0;
                case OP_LIE_MARK: return lieBy(a, 0, b, 0, 0) != NONE;
                case OP_LIE_BLOCK: return lieBy(a, 1, b, script.third[line], 0) != NONE;
                case OP_LIE_TIMEOUT: return lieBy(a, 2, 0, b, 0) != NONE;
                default: return false;
            }
        }
    }

    /** What the calls that only ask are answered. */
    private static final class Survey {
        private Survey() {
        }

        static int flag(boolean is) {
            return is ? 1 : 0;
        }

        static int ofNode(World w, int node, int what) {
            Member m = w.members[node];
            switch (what) {
                case 0: return m.mode;
                case 1: return m.view;
                case 2: return m.voted;
                case 3: return m.proposed;
                case 4: return m.timed;
                case 5: return m.high;
                case 6: return m.lock;
                case 7: return m.proof;
                case 8: return m.logSize;
                case 9: return m.lastLogged();
                case 10: return m.forks;
                case 11: return flag(w.canPropose(node));
                case 12: return flag(w.canTimeOut(node));
                default: return NONE;
            }
        }

        static int ofBlock(Blocks blocks, int b, int what) {
            switch (what) {
                case 0: return blocks.view[b];
                case 1: return blocks.parent[b];
                case 2: return blocks.justify[b];
                case 3: return blocks.payload[b];
                case 4: return blocks.by[b];
                case 5: return blocks.height[b];
                case 6: return blocks.proved[b];
                case 7: return blocks.certified[b];
                default: return NONE;
            }
        }

        static int ofMessage(int message, int what) {
            switch (what) {
                case 0: return Net.senderOf(message);
                case 1: return Net.targetOf(message);
                case 2: return Net.kindOf(message);
                case 3: return Net.subjectOf(message);
                case 4: return Net.highOf(message);
                default: return NO_MESSAGE;
            }
        }

        static int distance(World w, Member m, int what) {
            Blocks blocks = w.blocks;
            int last = m.lastLogged();
            switch (what) {
                case 0: return m.view - blocks.view[last];
                case 1: return blocks.height[m.high] - blocks.height[last];
                case 2: return flag(blocks.reaches(m.high, m.lock));
                case 3: return flag(blocks.reaches(m.lock, last));
                case 4: return m.seenCount;
                case 5: return countFilled(m.timers, MAX_VIEW + 1);
                case 6: return countFilled(m.markers, blocks.count);
                default: return NO_NUMBER;
            }
        }

        private static int countFilled(int[] sets, int length) {
            int found = 0;
            for (int i = 0; i < length && i < sets.length; i++) {
                found += flag(sets[i] != 0);
            }
            return found;
        }

        static int ofChain(World w, int b, int what) {
            switch (what) {
                case 0: return w.blocks.height[b] + 1;
                case 1: return payloadsOf(w.blocks, b);
                case 2: return childrenOf(w.blocks, b, false);
                case 3: return childrenOf(w.blocks, b, true);
                case 4: return committersOf(w, b);
                case 5: return w.blocks.viewsInARow(b);
                case 6: return holdersOf(w, b);
                default: return NONE;
            }
        }

        private static int payloadsOf(Blocks blocks, int b) {
            int sum = blocks.payload[b];
            int x = b;
            for (int step = 0; step < MAX_BLOCKS && x > 0; step++) {
                x = blocks.parent[x];
                sum += blocks.payload[x];
            }
            return sum;
        }

        /** How many BLOCKS EXTEND b, or the greatest HEIGHT of these. */
        private static int childrenOf(Blocks blocks, int b, boolean asksHeight) {
            int found = 0;
            int highest = 0;
            for (int x = b; x < blocks.count; x++) {
                if (blocks.reaches(x, b)) {
                    found++;
                    highest = Math.max(highest, blocks.height[x]);
                }
            }
            return asksHeight ? highest : found;
        }

        private static int committersOf(World w, int b) {
            int found = 0;
            for (int i = 0; i < w.size; i++) {
                found += flag(w.members[i].hasLogged(w.blocks, b));
            }
            return found;
        }

        private static int holdersOf(World w, int b) {
            int found = 0;
            for (int i = 0; i < w.size; i++) {
                found += flag(w.isAwake(i) && w.blocks.reaches(w.members[i].lock, b));
            }
            return found;
        }

        /** How many couples of CERTIFIED BLOCKS have one VIEW. */
        static int rivalCertificates(Blocks blocks) {
            int found = 0;
            for (int a = 0; a < blocks.count; a++) {
                for (int b = a + 1; b < blocks.count && blocks.certified[a] == 1; b++) {
                    found += flag(blocks.certified[b] == 1 && blocks.view[a] == blocks.view[b]);
                }
            }
            return found;
        }

        static int accusedNodes(World w) {
            int accused = 0;
            for (int i = 0; i < w.evidence.count; i++) {
                accused |= 1 << w.evidence.at(i, 1, 5);
            }
            return Integer.bitCount(accused);
        }

        static int commonLog(World w) {
            int model = NONE;
            int common = 0;
            for (int i = 0; i < w.size; i++) {
                if (w.isAwake(i)) {
                    common = model == NONE ? w.members[i].logSize : sharedLog(w.members[model], w.members[i], common);
                    model = i;
                }
            }
            return common;
        }

        /** How many of the first so many BLOCKS two LOGS have in common. */
        private static int sharedLog(Member a, Member b, int most) {
            int length = Math.min(most, Math.min(a.logSize, b.logSize));
            for (int i = 0; i < length; i++) {
                if (a.logged[i] != b.logged[i]) {
                    return i;
                }
            }
            return length;
        }

        static int longestLog(World w) {
            int longest = 0;
            for (int i = 0; i < w.size; i++) {
                longest = Math.max(longest, w.members[i].logSize);
            }
            return longest;
        }

        static int strayBlocks(World w) {
            int found = 0;
            for (int b = 0; b < w.blocks.count; b++) {
                found += flag(isStray(w, b));
            }
            return found;
        }

        private static boolean isStray(World w, int b) {
            for (int i = 0; i < w.size; i++) {
                Member m = w.members[i];
                if (m.hasLogged(w.blocks, b) || w.blocks.reaches(b, m.lastLogged())) {
                    return false;
                }
            }
            return true;
        }

        static int highestCertified(Blocks blocks) {
            int best = 0;
            for (int b = 1; b < blocks.count; b++) {
                if (blocks.isCertified(b) && blocks.view[b] > blocks.view[best]) {
                    best = b;
                }
            }
            return best;
        }

        static int highestLock(World w) {
            int best = NONE;
            for (int i = 0; i < w.size; i++) {
                if (w.isAwake(i)) {
                    best = better(w.blocks.view, best, w.members[i].lock, 1);
                }
            }
            return best;
        }

        static int lowestHigh(World w) {
            int best = NONE;
            for (int i = 0; i < w.size; i++) {
                if (w.isAwake(i)) {
                    best = better(w.blocks.view, best, w.members[i].high, -1);
                }
            }
            return best;
        }

        static int highestLogged(World w) {
            int best = NONE;
            for (int i = 0; i < w.size; i++) {
                if (w.isAwake(i)) {
                    best = better(w.blocks.height, best, w.members[i].lastLogged(), 1);
                }
            }
            return best;
        }

        /** Which of two BLOCKS has more (sign 1) or less (sign -1) of something; of equals the least. */
        private static int better(int[] measure, int a, int b, int sign) {
            if (a == NONE) {
                return b;
            }
            int difference = sign * (measure[b] - measure[a]);
            return difference > 0 || difference == 0 && b < a ? b : a;
        }

        static int ofWorld(World w, int what) {
            switch (what) {
                case 0: return w.size;
                case 1: return w.faults();
                case 2: return w.quorum();
                case 3: return w.blocks.count;
                case 4: return w.net.count;
                case 5: return w.net.lost;
                case 6: return w.evidence.count;
                case 7: return flag(hasUnlikeLogs(w));
                case 8: return forksOfAll(w);
                case 9: return w.script.lines;
                case 10: return w.script.ran;
                case 11: return w.net.delivered;
                case 12: return greatestView(w);
                case 13: return certifiedBlocks(w.blocks);
                case 14: return w.draws;
                case 15: return w.events.count;
                case 16: return w.rule;
                case 17: return nodesOfMode(w, SILENT);
                case 18: return nodesOfMode(w, LIAR);
                case 19: return w.net.cutOff;
                case 20: return cutCouples(w);
                default: return NO_NUMBER;
            }
        }

        private static boolean hasUnlikeLogs(World w) {
            for (int i = 0; i < w.size; i++) {
                for (int j = i + 1; j < w.size; j++) {
                    if (w.isAwake(i) && w.isAwake(j) && areUnlike(w, i, j)) {
                        return true;
                    }
                }
            }
            return false;
        }

        private static boolean areUnlike(World w, int i, int j) {
            int a = w.members[i].lastLogged();
            int b = w.members[j].lastLogged();
            return !w.blocks.reaches(a, b) && !w.blocks.reaches(b, a);
        }

        private static int forksOfAll(World w) {
            int sum = 0;
            for (int i = 0; i < w.size; i++) {
                sum += w.members[i].forks;
            }
            return sum;
        }

        private static int greatestView(World w) {
            int greatest = 0;
            for (int i = 0; i < w.size; i++) {
                if (w.isAwake(i)) {
                    greatest = Math.max(greatest, w.members[i].view);
                }
            }
            return greatest;
        }

        private static int certifiedBlocks(Blocks blocks) {
            int found = 0;
            for (int b = 0; b < blocks.count; b++) {
                found += blocks.certified[b];
            }
            return found;
        }

        private static int nodesOfMode(World w, int mode) {
            int set = 0;
            for (int i = 0; i < w.size; i++) {
                set |= flag(w.members[i].mode == mode) << i;
            }
            return set;
        }

        private static int cutCouples(World w) {
            int ends = 0;
            for (int i = 0; i < w.size; i++) {
                ends += Integer.bitCount(w.net.cuts[i]);
            }
            return ends / 2;
        }
    }

    /** The LEDGER: five ACCOUNTS and what the PAYLOADS of a CHAIN make of them. */
    private static final class Accounts {
        private final int[] held = new int[ACCOUNTS];
        private final int[] way = new int[MAX_BLOCKS];

        /** What one ACCOUNT has behind the CHAIN of b. */
        int behind(Blocks blocks, int b, int account) {
            int x = b;
            for (int place = blocks.height[b]; place >= 0; place--) {
                way[place] = x;
                x = place > 0 ? blocks.parent[x] : 0;
            }
            Arrays.fill(held, 10);
            for (int place = 0; place <= blocks.height[b]; place++) {
                apply(blocks.payload[way[place]]);
            }
            return held[account];
        }

        private void apply(int payload) {
            int a = payload / 50 % ACCOUNTS;
            int next = (a + 1) % ACCOUNTS;
            int amount = payload % 50;
            switch (payload / 250) {
                case 0:
                    held[a] += amount;
                    break;
                case 1:
                    held[a] = Math.max(0, held[a] - amount);
                    break;
                case 2:
                    move(a, next, Math.min(amount, held[a]));
                    break;
                default:
                    move(next, a, held[next]);
                    break;
            }
        }

        private void move(int from, int to, int amount) {
            held[from] -= amount;
            held[to] += amount;
        }
    }

    /** The TAPE, and the reading of it as a plan up to the first FAULT. */
    private static final class Tape {
        private static final int AT_END = 0;
        private static final int AT_WORD = 1;
        private static final int AT_NUMBER = 2;
        private static final int AT_SEMICOLON = 3;
        private static final int AT_NOTHING_KNOWN = 4;

        private static final int MISPLACED = 1;
        private static final int BEYOND_BOUNDS = 2;
        private static final int TOO_MANY_LINES = 3;

        final byte[] bytes = new byte[MAX_TAPE];
        int length;
        int fault;
        int place;
        /** What was read; a FAULT leaves it half written, so the plan itself is another one. */
        final Script draft = new Script();
        private int start;
        private int behind;
        private int token;

        Tape() {
            place = NONE;
        }

        void write(int number) {
            for (int shift = 24; shift >= 0 && length < MAX_TAPE; shift -= 8) {
                bytes[length] = (byte) (number >> shift);
                length++;
            }
        }

        /** Reads and empties the TAPE: whether there was no FAULT. */
        boolean read() {
            fault = 0;
            place = NONE;
            behind = 0;
            draft.clear();
            step();
            for (int line = 0; line <= MAX_LINES && fault == 0 && token != AT_END; line++) {
                readLine();
            }
            length = 0;
            return fault == 0;
        }

        private void readLine() {
            int op = wordAmong(OP_PROPOSE, OP_LIE);
            if (op == 0) {
                fail(MISPLACED);
                return;
            }
            if (draft.isFull()) {
                fail(TOO_MANY_LINES);
                return;
            }
            step();
            int a = readNumber(op, 0);
            if (op == OP_LIE && fault == 0) {
                op = readLie();
            }
            int b = readNumber(op, 1);
            int c = readNumber(op, 2);
            readSemicolon();
            if (fault == 0) {
                draft.add(op, a, b, c);
            }
        }

        private int readLie() {
            int op = wordAmong(OP_LIE_MARK, OP_LIE_TIMEOUT);
            if (op == 0) {
                fail(MISPLACED);
                return OP_LIE;
            }
            step();
            return op;
        }

        /** Reads the i-th number of an order, if it has so many; nothing more is read behind a FAULT. */
        private int readNumber(int op, int i) {
            String kinds = numbersOf(op);
            if (fault != 0 || i >= kinds.length()) {
                return 0;
            }
            if (token != AT_NUMBER) {
                fail(MISPLACED);
                return 0;
            }
            int number = numberHere();
            if (number < leastOf(kinds.charAt(i)) || number > mostOf(kinds.charAt(i))) {
                fail(BEYOND_BOUNDS);
                return 0;
            }
            step();
            return number;
        }

        private void readSemicolon() {
            if (fault != 0) {
                return;
            }
            if (token != AT_SEMICOLON) {
                fail(MISPLACED);
                return;
            }
            step();
        }

        private void fail(int what) {
            fault = what;
            place = start;
        }

        /** Goes on to the next token; at the end it starts where the text ends. */
        private void step() {
            start = behind;
            while (start < length && isBlank(bytes[start])) {
                start++;
            }
            behind = start;
            if (start >= length) {
                token = AT_END;
            } else if (isLetter(bytes[start])) {
                while (behind < length && isLetter(bytes[behind])) {
                    behind++;
                }
                token = AT_WORD;
            } else if (isDigit(bytes[start])) {
                while (behind < length && isDigit(bytes[behind])) {
                    behind++;
                }
                token = behind - start <= 4 ? AT_NUMBER : AT_NOTHING_KNOWN;
            } else {
                behind = start + 1;
                token = bytes[start] == ';' ? AT_SEMICOLON : AT_NOTHING_KNOWN;
            }
        }

        private static boolean isBlank(int sign) {
            return sign == 32 || sign == 10;
        }

        private static boolean isLetter(int sign) {
            return sign >= 'a' && sign <= 'z' || sign >= 'A' && sign <= 'Z';
        }

        private static boolean isDigit(int sign) {
            return sign >= '0' && sign <= '9';
        }

        private int numberHere() {
            int number = 0;
            for (int i = start; i < behind; i++) {
                number = 10 * number + bytes[i] - '0';
            }
            return number;
        }

        /** Which of these orders' words stands here; 0 if none does. */
        private int wordAmong(int from, int to) {
            for (int op = from; op <= to; op++) {
                if (token == AT_WORD && isHere(wordOf(op))) {
                    return op;
                }
            }
            return 0;
        }

        private boolean isHere(String word) {
            if (word.length() != behind - start) {
                return false;
            }
            for (int i = 0; i < word.length(); i++) {
                if (bytes[start + i] != word.charAt(i)) {
                    return false;
                }
            }
            return true;
        }

        private static String wordOf(int op) {
            switch (op) {
                case OP_PROPOSE: return "propose";
                case OP_DELIVER: return "deliver";
                case OP_DROP: return "drop";
                case OP_LOSE: return "lose";
                case OP_TURN: return "turn";
                case OP_TIMEOUT: return "timeout";
                case OP_CALM: return "calm";
                case OP_LIE: return "lie";
                case OP_LIE_MARK: return "mark";
                case OP_LIE_BLOCK: return "block";
                case OP_LIE_TIMEOUT: return "timeout";
                default: return "";
            }
        }

        /** The numbers of an order by the document's letters: N, P, K, M, B, V, R. */
        private static String numbersOf(int op) {
            switch (op) {
                case OP_PROPOSE: return "NP";
                case OP_DELIVER: return "K";
                case OP_DROP: return "K";
                case OP_LOSE: return "N";
                case OP_TURN: return "M";
                case OP_TIMEOUT: return "N";
                case OP_CALM: return "R";
                case OP_LIE: return "N";
                case OP_LIE_MARK: return "NB";
                case OP_LIE_BLOCK: return "NBV";
                case OP_LIE_TIMEOUT: return "NV";
                default: return "";
            }
        }

        private static int leastOf(char kind) {
            return kind == 'K' || kind == 'V' || kind == 'R' ? 1 : 0;
        }

        private static int mostOf(char kind) {
            switch (kind) {
                case 'N': return MAX_NODES - 1;
                case 'P': return MAX_PAYLOAD;
                case 'B': return MAX_BLOCKS - 1;
                case 'V': return MAX_VIEW;
                case 'R': return MAX_ROUNDS;
                default: return 50;
            }
        }
    }
}
