import java.lang.reflect.Method;
import java.util.ArrayList;
import java.util.Arrays;
import java.util.HashMap;
import java.util.LinkedHashSet;
import java.util.List;
import java.util.Map;
import java.util.Random;
import java.util.TreeMap;
import java.util.TreeSet;

/**
 * Long runs of calls by draws, on the class and on a model of the document that is written as literally as
 * can be (objects and sets, deep copies for what is in thought). Every answer of the two has to be the same.
 */
public final class ModelRuns {
    private static final int NONE = -1;

    // ---------------------------------------------------------------- the model

    static final class Block {
        int id, view, payload, by, height, proved, certified;
        Block parent, justify;
        boolean extendsIt(Block b) {
            return b == this || (parent != null && parent.extendsIt(b));
        }
    }

    static final class Msg {
        int from, to, kind, what, high;
        Msg(int from, int to, int kind, int what, int high) {
            this.from = from; this.to = to; this.kind = kind; this.what = what; this.high = high;
        }
    }

    static final class N {
        int mode, view = 1, voted, proposed, timed, high, lock, proof, forks;
        List<Integer> log = new ArrayList<>(List.of(0));
        LinkedHashSet<Integer> given = new LinkedHashSet<>();
        TreeMap<Integer, TreeSet<Integer>> marks = new TreeMap<>();
        TreeMap<Integer, TreeSet<Integer>> timeouts = new TreeMap<>();
        N copy() {
            N c = new N();
            c.mode = mode; c.view = view; c.voted = voted; c.proposed = proposed; c.timed = timed;
            c.high = high; c.lock = lock; c.proof = proof; c.forks = forks;
            c.log = new ArrayList<>(log);
            c.given = new LinkedHashSet<>(given);
            marks.forEach((k, s) -> c.marks.put(k, new TreeSet<>(s)));
            timeouts.forEach((k, s) -> c.timeouts.put(k, new TreeSet<>(s)));
            return c;
        }
        int last() {
            return log.get(log.size() - 1);
        }
    }

    public static final class Model {
        int n = 4, rule, state, lost, cutCount, delivered, ran;
        List<Block> blocks = new ArrayList<>();
        List<N> nodes = new ArrayList<>();
        List<Msg> net = new ArrayList<>();
        TreeSet<String> cuts = new TreeSet<>();
        List<List<Integer>> evidence = new ArrayList<>();
        List<int[]> events = new ArrayList<>();
        List<String[]> plan = new ArrayList<>();
        // not of the image
        StringBuilder tape = new StringBuilder();
        int fault = 0, place = NONE;
        Model kept;

        public Model() {
            Block zero = new Block();
            zero.by = NONE;
            zero.justify = zero;
            zero.certified = 1;
            blocks.add(zero);
            for (int i = 0; i < 4; i++) nodes.add(new N());
        }

        private Model copy() {
            Model c = new Model();
            c.take(this);
            return c;
        }

        private void take(Model o) {
            n = o.n; rule = o.rule; state = o.state; lost = o.lost; cutCount = o.cutCount;
            delivered = o.delivered; ran = o.ran;
            blocks = new ArrayList<>();
            for (Block b : o.blocks) {
                Block d = new Block();
                d.id = b.id; d.view = b.view; d.payload = b.payload; d.by = b.by; d.height = b.height;
                d.proved = b.proved; d.certified = b.certified;
                blocks.add(d);
            }
            for (Block b : o.blocks) {
                blocks.get(b.id).parent = b.parent == null ? null : blocks.get(b.parent.id);
                blocks.get(b.id).justify = blocks.get(b.justify.id);
            }
            nodes = new ArrayList<>();
            for (N x : o.nodes) nodes.add(x.copy());
            net = new ArrayList<>(o.net);
            cuts = new TreeSet<>(o.cuts);
            evidence = new ArrayList<>(o.evidence);
            events = new ArrayList<>(o.events);
            plan = new ArrayList<>(o.plan);
        }

        private int f() { return (n - 1) / 3; }
        private int q() { return n - f(); }
        private boolean isN(int i) { return i >= 0 && i < n; }
        private boolean isB(int b) { return b >= 0 && b < blocks.size(); }
        private Block B(int b) { return blocks.get(b); }
        private boolean loud(int i) { return isN(i) && nodes.get(i).mode != 1; }
        private boolean early() { return net.isEmpty() && blocks.size() == 1; }
        private int lead(int v) {
            return rule == 0 ? v % n : rule == 1 ? (v / 2) % n : (v * v) % n;
        }
        private int drawn(int m) {
            state = state * 1664525 + 1013904223;
            long top = (state & 0xffffffffL) >> 8;
            return (int) (top % m);
        }
        private static String pair(int a, int b) { return Math.min(a, b) + "," + Math.max(a, b); }
        private void post(int from, int to, int kind, int what, int high) {
            if (cuts.contains(pair(from, to))) { cutCount++; return; }
            if (net.size() == 200) { lost++; return; }
            net.add(new Msg(from, to, kind, what, high));
        }
        private void all(int from, int kind, int what, int high) {
            for (int t = 0; t < n; t++) post(from, t, kind, what, high);
        }
        private void happen(int what, int node, int b) {
            if (events.size() < 100) events.add(new int[] {what, node, b});
        }
        private void blame(int kind, int whom, int node, int a, int b) {
            List<Integer> line = List.of(kind, whom, node, a, b);
            if (evidence.size() < 60 && !evidence.contains(line)) evidence.add(line);
        }

        private void learnt(int node, int cert) {
            N x = nodes.get(node);
            Block c = B(cert);
            if (c.view > B(x.high).view) x.high = cert;
            Block d = c.justify;
            if (d.view > B(x.lock).view) x.lock = d.id;
            Block e = d.justify;
            if (c.parent == d && d.parent == e && c.view == d.view + 1 && d.view == e.view + 1 && e.id != 0) {
                Block l = B(x.last());
                if (e.extendsIt(l)) {
                    List<Integer> between = new ArrayList<>();
                    for (Block y = e; y != l; y = y.parent) between.add(0, y.id);
                    for (int y : between) { x.log.add(y); happen(3, node, y); }
                } else if (!l.extendsIt(e)) {
                    x.forks++;
                    happen(4, node, e.id);
                }
            }
        }

        private boolean gotBlock(int node, int id) {
            N x = nodes.get(node);
            Block b = B(id);
            for (int y : x.given) {
                if (y != id && B(y).view == b.view) { blame(1, b.by, node, y, id); break; }
            }
            x.given.add(id);
            learnt(node, b.justify.id);
            if (b.view > x.view && (b.justify.view == b.view - 1 || b.proved == 1 || x.proof >= b.view - 1)) x.view = b.view;
            if (b.view == x.view && b.view > x.voted && b.parent == b.justify) {
                boolean safe = b.extendsIt(B(x.lock)) || b.justify.view > B(x.lock).view;
                if (safe) {
                    x.voted = b.view;
                    happen(0, node, id);
                    post(node, lead(b.view + 1), 2, id, NONE);
                    return true;
                }
                happen(1, node, id);
            }
            return false;
        }

        private void gotMark(int node, int j, int id) {
            N x = nodes.get(node);
            Block b = B(id);
            if (lead(b.view + 1) != node) return;
            if (x.marks.getOrDefault(id, new TreeSet<>()).contains(j)) return;
            for (Map.Entry<Integer, TreeSet<Integer>> e : x.marks.entrySet()) {
                if (e.getKey() != id && B(e.getKey()).view == b.view && e.getValue().contains(j)) {
                    blame(2, j, node, e.getKey(), id);
                    break;
                }
            }
            x.marks.computeIfAbsent(id, k -> new TreeSet<>()).add(j);
            if (x.marks.get(id).size() == q()) {
                b.certified = 1;
                happen(2, node, id);
                learnt(node, id);
                if (x.view <= b.view) x.view = b.view + 1;
            }
        }

        private void gotTimeout(int node, int j, int v, int high) {
            N x = nodes.get(node);
            learnt(node, high);
            if (!x.timeouts.computeIfAbsent(v, k -> new TreeSet<>()).add(j)) return;
            if (x.timeouts.get(v).size() == q()) {
                if (v > x.proof) { x.proof = v; happen(5, node, v); }
                if (x.view <= v) x.view = v + 1;
            }
        }

        private boolean canPropose(int i) {
            if (!loud(i) || blocks.size() >= 100) return false;
            N x = nodes.get(i);
            if (x.view > 200 || lead(x.view) != i || x.proposed >= x.view) return false;
            return x.view == 1 || B(x.high).view == x.view - 1 || x.proof >= x.view - 1;
        }

        private boolean canTime(int i) {
            return loud(i) && nodes.get(i).view <= 200 && nodes.get(i).timed < nodes.get(i).view;
        }

        private Block made(int view, int parent, int justify, int payload, int by, boolean proved) {
            Block b = new Block();
            b.id = blocks.size(); b.view = view; b.parent = B(parent); b.justify = B(justify);
            b.payload = payload; b.by = by; b.height = b.parent.height + 1; b.proved = proved ? 1 : 0;
            blocks.add(b);
            all(by, 1, b.id, NONE);
            return b;
        }

        // the face

        public boolean nodes(int k) {
            if (k < 4 || k > 7 || !early()) return false;
            n = k;
            nodes = new ArrayList<>();
            for (int i = 0; i < k; i++) nodes.add(new N());
            cuts.clear();
            return true;
        }

        public boolean mode(int i, int m) {
            if (!isN(i) || m < 0 || m > 2) return false;
            nodes.get(i).mode = m;
            return true;
        }

        public int propose(int i, int payload) {
            if (payload < 0 || payload > 999 || !canPropose(i)) return NONE;
            N x = nodes.get(i);
            Block b = made(x.view, x.high, x.high, payload, i, x.view == 1 || x.proof >= x.view - 1);
            x.proposed = x.view;
            return b.id;
        }

        public boolean timeout(int i) {
            if (!canTime(i)) return false;
            N x = nodes.get(i);
            all(i, 3, x.view, x.high);
            x.timed = x.view;
            if (x.voted < x.view) x.voted = x.view;
            return true;
        }

        public int lie(int i, int what, int a, int v, int payload) {
            if (!isN(i) || nodes.get(i).mode != 2) return NONE;
            if (what == 0) {
                if (!isB(a) || a == 0) return NONE;
                post(i, lead(B(a).view + 1), 2, a, NONE);
                return 0;
            }
            if (what == 2) {
                if (v < 1 || v > 200 || !isB(a) || B(a).certified != 1) return NONE;
                all(i, 3, v, a);
                return 0;
            }
            if (what == 1 || what == 3) {
                if (!isB(a) || v > 200 || v <= B(a).view || lead(v) != i) return NONE;
                if (what == 1 && B(a).certified != 1) return NONE;
                if (payload < 0 || payload > 999 || blocks.size() >= 100) return NONE;
                return made(v, a, what == 1 ? a : 0, payload, i, false).id;
            }
            return NONE;
        }

        public int deliver(int k) {
            if (k < 0 || k >= net.size()) return NONE;
            Msg m = net.remove(k);
            delivered++;
            if (loud(m.to)) {
                if (m.kind == 1) gotBlock(m.to, m.what);
                if (m.kind == 2) gotMark(m.to, m.from, m.what);
                if (m.kind == 3) gotTimeout(m.to, m.from, m.what, m.high);
            }
            return m.kind;
        }

        public int drop(int k) {
            return k < 0 || k >= net.size() ? NONE : net.remove(k).kind;
        }

        public int lose(int i) {
            if (!isN(i)) return NONE;
            int before = net.size();
            net.removeIf(m -> m.to == i);
            return before - net.size();
        }

        public int leaders(int r) {
            if (r < 0 || r > 2 || !early()) return NONE;
            int was = rule;
            rule = r;
            return was;
        }

        public boolean cut(int a, int b, boolean is) {
            if (!isN(a) || !isN(b) || a == b) return false;
            if (is) cuts.add(pair(a, b)); else cuts.remove(pair(a, b));
            return true;
        }

        public int reach(int i) {
            if (!isN(i)) return NONE;
            int set = 0;
            for (int j = 0; j < n; j++) if (!cuts.contains(pair(i, j))) set += 1 << j;
            return set;
        }

        public int since(int i, int what) {
            if (!isN(i)) return -100000;
            N x = nodes.get(i);
            Block last = B(x.last());
            switch (what) {
                case 0: return x.view - last.view;
                case 1: return B(x.high).height - last.height;
                case 2: return B(x.high).extendsIt(B(x.lock)) ? 1 : 0;
                case 3: return B(x.lock).extendsIt(last) ? 1 : 0;
                case 4: return x.given.size();
                case 5: return x.timeouts.size();
                case 6: return x.marks.size();
                default: return -100000;
            }
        }

        public int state(int v) { int was = state; state = v; return was; }

        public boolean ask(int i, int o) {
            if (!loud(i) || !loud(o) || i == o) return false;
            N x = nodes.get(i);
            learnt(i, nodes.get(o).high);
            if (nodes.get(o).proof > x.proof) x.proof = nodes.get(o).proof;
            if (x.view < x.proof + 1) x.view = x.proof + 1;
            if (x.view < B(x.high).view + 1) x.view = B(x.high).view + 1;
            return true;
        }

        public int storm(int k, int d) {
            if (k < 1 || k > 40 || d < 0 || d > 9) return NONE;
            int got = 0;
            for (int i = 0; i < k; i++) {
                if (net.isEmpty()) break;
                int which = drawn(net.size());
                int luck = drawn(10);
                if (luck < d) drop(which); else { deliver(which); got++; }
            }
            return got;
        }

        public boolean turn(int m) {
            if (m < 0 || m > net.size()) return false;
            List<Msg> fresh = new ArrayList<>(net.subList(m, net.size()));
            for (int i = m - 1; i >= 0; i--) fresh.add(net.get(i));
            net = fresh;
            return true;
        }

        private int logs() { int s = 0; for (N x : nodes) s += x.log.size(); return s; }

        public int calm(int r) {
            if (r < 1 || r > 20) return NONE;
            int before = logs();
            for (int i = 0; i < r; i++) {
                while (!net.isEmpty()) deliver(0);
                int did = 0;
                for (int j = 0; j < n; j++) if (canPropose(j)) { propose(j, i); did++; }
                if (did == 0) for (int j = 0; j < n; j++) if (canTime(j)) timeout(j);
            }
            while (!net.isEmpty()) deliver(0);
            return logs() - before;
        }

        public int feed(int a, int b, int c, int d, int e) {
            if (tape.length() + 20 > 400) return NONE;
            for (int x : new int[] {a, b, c, d, e}) {
                for (int s = 3; s >= 0; s--) tape.append((char) ((x >>> (8 * s)) % 256));
            }
            return tape.length();
        }

        public boolean end(int k) {
            if (k < 0 || k > tape.length()) return false;
            tape.setLength(k);
            return true;
        }

        /** All that may stand, as lists of words and of number kinds, one a form of line. */
        private static final String[] FORMS = {
            "propose N P ;", "deliver K ;", "drop K ;", "lose N ;", "turn M ;", "timeout N ;",
            "lie N mark B ;", "lie N block B V ;", "lie N timeout V ;", "calm R ;"};
        private static final Map<String, int[]> BOUNDS = Map.of("N", new int[] {0, 6}, "P", new int[] {0, 999},
            "K", new int[] {1, 50}, "M", new int[] {0, 50}, "B", new int[] {0, 99}, "V", new int[] {1, 200},
            "R", new int[] {1, 20});

        public int plan() {
            String text = tape.toString();
            tape.setLength(0);
            fault = 0;
            place = NONE;
            List<String> tokens = new ArrayList<>();
            List<Integer> places = new ArrayList<>();
            java.util.regex.Matcher m = java.util.regex.Pattern.compile("[a-zA-Z]+|[0-9]+|[^ \\n]", java.util.regex.Pattern.DOTALL).matcher(text);
            while (m.find()) { tokens.add(m.group()); places.add(m.start()); }
            tokens.add("");
            places.add(text.length());
            List<String[]> lines = new ArrayList<>();
            List<String> line = new ArrayList<>();
            for (int t = 0; t < tokens.size(); t++) {
                String token = tokens.get(t);
                if (token.isEmpty() && line.isEmpty()) break;
                boolean stands = false, inside = false;
                for (String form : FORMS) {
                    String[] parts = form.split(" ");
                    if (parts.length <= line.size() || !fits(parts, line)) continue;
                    String want = parts[line.size()];
                    if (BOUNDS.containsKey(want)) {
                        if (token.matches("[0-9]{1,4}")) {
                            stands = true;
                            int v = Integer.parseInt(token);
                            inside |= v >= BOUNDS.get(want)[0] && v <= BOUNDS.get(want)[1];
                        }
                    } else if (want.equals(token)) {
                        stands = true;
                        inside = true;
                    }
                }
                int wrong = !stands ? 1 : !inside ? 2 : line.isEmpty() && lines.size() == 24 ? 3 : 0;
                if (wrong != 0) { fault = wrong; place = places.get(t); return NONE; }
                line.add(token);
                if (token.equals(";")) { lines.add(line.toArray(new String[0])); line.clear(); }
            }
            plan = lines;
            ran = 0;
            return lines.size();
        }

        private static boolean fits(String[] parts, List<String> line) {
            for (int i = 0; i < line.size(); i++) {
                boolean number = BOUNDS.containsKey(parts[i]);
                if (number ? !Character.isDigit(line.get(i).charAt(0)) : !parts[i].equals(line.get(i))) return false;
            }
            return true;
        }

        public int fault(int what) { return what == 0 ? fault : what == 1 ? place : NONE; }

        public int run(int k) {
            if (k < 1 || k > 24) return NONE;
            int good = 0;
            for (int i = 0; i < k && ran < plan.size(); i++) {
                String[] l = plan.get(ran);
                ran++;
                int[] v = new int[l.length];
                for (int j = 0; j < l.length; j++) v[j] = l[j].matches("[0-9]+") ? Integer.parseInt(l[j]) : 0;
                boolean ok = false;
                if (l[0].equals("propose")) ok = propose(v[1], v[2]) != NONE;
                if (l[0].equals("deliver")) for (int j = 0; j < v[1]; j++) ok |= deliver(0) != NONE;
                if (l[0].equals("drop")) for (int j = 0; j < v[1]; j++) ok |= drop(0) != NONE;
                if (l[0].equals("lose")) ok = lose(v[1]) != NONE;
                if (l[0].equals("turn")) ok = turn(v[1]);
                if (l[0].equals("timeout")) ok = timeout(v[1]);
                if (l[0].equals("calm")) ok = calm(v[1]) != NONE;
                if (l[0].equals("lie")) {
                    if (l[2].equals("mark")) ok = lie(v[1], 0, v[3], 0, 0) != NONE;
                    if (l[2].equals("block")) ok = lie(v[1], 1, v[3], v[4], 0) != NONE;
                    if (l[2].equals("timeout")) ok = lie(v[1], 2, 0, v[3], 0) != NONE;
                }
                if (ok) good++;
            }
            return good;
        }

        public int node(int i, int what) {
            if (!isN(i) || what < 0 || what > 12) return NONE;
            N x = nodes.get(i);
            return new int[] {x.mode, x.view, x.voted, x.proposed, x.timed, x.high, x.lock, x.proof, x.log.size(),
                x.last(), x.forks, canPropose(i) ? 1 : 0, canTime(i) ? 1 : 0}[what];
        }

        public int log(int i, int k) {
            return !isN(i) || k < 0 || k >= nodes.get(i).log.size() ? NONE : nodes.get(i).log.get(k);
        }

        public int block(int b, int what) {
            if (!isB(b) || what < 0 || what > 7) return NONE;
            Block x = B(b);
            return new int[] {x.view, x.parent == null ? NONE : x.parent.id, x.justify.id, x.payload, x.by, x.height,
                x.proved, x.certified}[what];
        }

        public int marks(int i, int b) {
            return !isN(i) || !isB(b) ? NONE : nodes.get(i).marks.getOrDefault(b, new TreeSet<>()).size();
        }

        public int timeouts(int i, int v) {
            return !isN(i) || v < 1 || v > 200 ? NONE : nodes.get(i).timeouts.getOrDefault(v, new TreeSet<>()).size();
        }

        public int message(int i, int what) {
            if (i < 0 || i >= net.size() || what < 0 || what > 4) return NONE - 1;
            Msg m = net.get(i);
            return new int[] {m.from, m.to, m.kind, m.what, m.high}[what];
        }

        public int evidence(int i, int what) {
            return i < 0 || i >= evidence.size() || what < 0 || what > 4 ? NONE : evidence.get(i).get(what);
        }

        public int event(int i, int what) {
            return i < 0 || i >= events.size() || what < 0 || what > 2 ? NONE : events.get(i)[what];
        }

        private List<Block> line(Block b) {
            List<Block> way = new ArrayList<>();
            for (Block x = b; x != null; x = x.parent) way.add(0, x);
            return way;
        }

        public int ledger(int of, boolean block, int a) {
            if (a < 0 || a > 4 || (block ? !isB(of) : !isN(of))) return NONE;
            List<Block> way = new ArrayList<>();
            if (block) way = line(B(of)); else for (int b : nodes.get(of).log) way.add(B(b));
            int[] has = {10, 10, 10, 10, 10};
            for (Block b : way) {
                int kind = b.payload / 250, acc = (b.payload / 50) % 5, m = b.payload % 50, next = acc == 4 ? 0 : acc + 1;
                if (kind == 0) has[acc] += m;
                if (kind == 1) has[acc] = has[acc] < m ? 0 : has[acc] - m;
                if (kind == 2) { int g = Math.min(m, has[acc]); has[acc] -= g; has[next] += g; }
                if (kind == 3) { has[acc] += has[next]; has[next] = 0; }
            }
            return has[a];
        }

        public int without(int i) {
            if (!isN(i)) return NONE;
            Model c = copy();
            c.nodes.get(i).mode = 1;
            return c.soon();
        }

        public int audit(int what) {
            int found = 0;
            switch (what) {
                case 0:
                    for (Block a : blocks) for (Block b : blocks) {
                        if (a.id < b.id && a.certified == 1 && b.certified == 1 && a.view == b.view) found++;
                    }
                    return found;
                case 1:
                    TreeSet<Integer> who = new TreeSet<>();
                    for (List<Integer> l : evidence) who.add(l.get(1));
                    return who.size();
                case 2:
                    for (int k = 0; ; k++) {
                        TreeSet<Integer> at = new TreeSet<>();
                        for (N x : nodes) if (x.mode != 1) at.add(k < x.log.size() ? x.log.get(k) : NONE);
                        if (at.size() != 1 || at.first() == NONE) return k;
                    }
                case 3:
                    for (N x : nodes) found = Math.max(found, x.log.size());
                    return found;
                case 4:
                    for (Block b : blocks) {
                        boolean stray = true;
                        for (N x : nodes) if (x.log.contains(b.id) || b.extendsIt(B(x.last()))) stray = false;
                        if (stray) found++;
                    }
                    return found;
                default: return NONE;
            }
        }

        public int pending(int i, int kind) {
            if (!isN(i) || kind < 0 || kind > 3) return NONE;
            return (int) net.stream().filter(m -> m.to == i && (kind == 0 || m.kind == kind)).count();
        }

        public int path(int b, int i) {
            if (!isB(b)) return NONE;
            for (Block x : line(B(b))) if (x.height == i) return x.id;
            return NONE;
        }

        public int markers(int i, int b) {
            if (!isN(i) || !isB(b)) return NONE;
            int set = 0;
            for (int j : nodes.get(i).marks.getOrDefault(b, new TreeSet<>())) set += 1 << j;
            return set;
        }

        public int best(int what) {
            if (what < 0 || what > 3) return NONE;
            TreeSet<Integer> from = new TreeSet<>();
            if (what == 0) for (Block b : blocks) if (b.certified == 1) from.add(b.id);
            for (N x : nodes) {
                if (x.mode != 1 && what > 0) from.add(what == 1 ? x.lock : what == 2 ? x.high : x.last());
            }
            int best = NONE;
            for (int b : from) {
                int worth = what == 3 ? B(b).height : what == 2 ? -B(b).view : B(b).view;
                int had = best == NONE ? Integer.MIN_VALUE : what == 3 ? B(best).height : what == 2 ? -B(best).view : B(best).view;
                if (worth > had) best = b;
            }
            return best;
        }

        public int soon() {
            for (int r = 1; r <= 20; r++) {
                Model c = copy();
                c.calm(r);
                for (int i = 0; i < n; i++) {
                    if (nodes.get(i).mode == 0 && c.nodes.get(i).log.size() > nodes.get(i).log.size()) return r;
                }
            }
            return NONE;
        }

        public int two(int a, int b, int what) {
            if (!isB(a) || !isB(b) || what < 0 || what > 1) return NONE;
            if (what == 0) return B(a).extendsIt(B(b)) ? 1 : 0;
            Block best = B(0);
            for (Block x : blocks) if (B(a).extendsIt(x) && B(b).extendsIt(x) && x.height > best.height) best = x;
            return best.id;
        }

        public int would(int i, int b) {
            if (!isN(i) || !isB(b) || b == 0) return NONE;
            return loud(i) && copy().gotBlock(i, b) ? 1 : 0;
        }

        public int chain(int b, int what) {
            if (!isB(b)) return NONE;
            int found = 0;
            switch (what) {
                case 0: return line(B(b)).size();
                case 1: for (Block x : line(B(b))) found += x.payload; return found;
                case 2: for (Block x : blocks) if (x.extendsIt(B(b))) found++; return found;
                case 3: for (Block x : blocks) if (x.extendsIt(B(b))) found = Math.max(found, x.height); return found;
                case 4: for (N x : nodes) if (x.log.contains(b)) found++; return found;
                case 5:
                    Block y = B(b);
                    found = 1;
                    while (y.parent != null && y.parent.view + 1 == y.view) { found++; y = y.parent; }
                    return found;
                case 6: for (N x : nodes) if (x.mode != 1 && B(x.lock).extendsIt(B(b))) found++; return found;
                default: return NONE;
            }
        }

        public boolean image(boolean taken) {
            if (taken) { kept = copy(); return true; }
            if (kept == null) return false;
            take(kept);
            return true;
        }

        public int look(int what) {
            int found = 0;
            switch (what) {
                case 0: return n;
                case 1: return f();
                case 2: return q();
                case 3: return blocks.size();
                case 4: return net.size();
                case 5: return lost;
                case 6: return evidence.size();
                case 7:
                    for (N x : nodes) for (N y : nodes) {
                        if (x.mode != 1 && y.mode != 1 && !B(x.last()).extendsIt(B(y.last())) && !B(y.last()).extendsIt(B(x.last()))) return 1;
                    }
                    return 0;
                case 8: for (N x : nodes) found += x.forks; return found;
                case 9: return plan.size();
                case 10: return ran;
                case 11: return delivered;
                case 12: for (N x : nodes) if (x.mode != 1) found = Math.max(found, x.view); return found;
                case 13: for (Block b : blocks) found += b.certified; return found;
                case 14: return state;
                case 15: return events.size();
                case 16: return rule;
                case 17: for (int i = 0; i < n; i++) if (nodes.get(i).mode == 1) found += 1 << i; return found;
                case 18: for (int i = 0; i < n; i++) if (nodes.get(i).mode == 2) found += 1 << i; return found;
                case 19: return cutCount;
                case 20: return cuts.size();
                default: return -100000;
            }
        }
    }

    // ---------------------------------------------------------------- the driver

    private static final Map<String, Method> REAL = face(ChainVotes.class);
    private static final Map<String, Method> THOUGHT = face(Model.class);
    private static int wrong = 0;
    private static final int[] SEEN = new int[12];

    private static Map<String, Method> face(Class<?> of) {
        Map<String, Method> face = new HashMap<>();
        for (Method m : of.getDeclaredMethods()) {
            if (java.lang.reflect.Modifier.isPublic(m.getModifiers())) face.put(m.getName(), m);
        }
        return face;
    }

    private final long seed;
    private final Random random;
    private final ChainVotes real = new ChainVotes();
    private final Model model = new Model();
    private final List<String> calls = new ArrayList<>();
    private int left = 512;
    private boolean off = false;

    private ModelRuns(long seed) {
        this.seed = seed;
        this.random = new Random(seed);
    }

    private static int number(Object answer) {
        return answer instanceof Boolean ? ((Boolean) answer ? 1 : 0) : (Integer) answer;
    }

    private int call(String name, Object... args) {
        try {
            int want = number(THOUGHT.get(name).invoke(model, args));
            int got = number(REAL.get(name).invoke(real, args));
            left--;
            calls.add(name + Arrays.toString(args));
            if (got != want && !off) {
                off = true;
                wrong++;
                System.out.println("seed " + seed + ": " + name + Arrays.toString(args) + " answered " + got + ", due is " + want
                    + " behind " + calls);
            }
            return want;
        } catch (ReflectiveOperationException e) {
            off = true;
            wrong++;
            System.out.println("seed " + seed + ": " + name + Arrays.toString(args) + " failed: " + e.getCause() + " behind " + calls);
            return 0;
        }
    }

    private int below(int n) { return n <= 0 ? 0 : random.nextInt(n); }
    private int node() { return below(20) == 0 ? below(12) - 2 : below(model.n); }
    private int blk() { return below(20) == 0 ? below(110) - 3 : below(3) == 0 ? below(model.blocks.size()) : Math.max(0, model.blocks.size() - 1 - below(5)); }
    private int place() { return below(20) == 0 ? below(220) - 5 : below(3) == 0 ? 0 : below(model.net.size()); }
    private int payload() { return below(20) == 0 ? below(1200) - 100 : below(1000); }
    private int view() { return below(10) == 0 ? below(230) - 10 : model.look(12) + below(5) - 1; }

    private void question() {
        switch (below(22)) {
            case 0: call("reach", node()); break;
            case 1: call("since", node(), below(9) - 1); break;
            case 2: call("node", node(), below(15) - 1); break;
            case 3: call("log", node(), below(8) - 1); break;
            case 4: call("block", blk(), below(10) - 1); break;
            case 5: call("marks", node(), blk()); break;
            case 6: call("timeouts", node(), view()); break;
            case 7: call("message", place(), below(7) - 1); break;
            case 8: call("evidence", below(model.evidence.size() + 2) - 1, below(7) - 1); break;
            case 9: call("event", below(model.events.size() + 2) - 1, below(5) - 1); break;
            case 10: call("ledger", random.nextBoolean() ? node() : blk(), random.nextBoolean(), below(7) - 1); break;
            case 11: call("without", node()); break;
            case 12: call("audit", below(7) - 1); break;
            case 13: call("pending", node(), below(6) - 1); break;
            case 14: call("path", blk(), below(10) - 1); break;
            case 15: call("markers", node(), blk()); break;
            case 16: call("best", below(6) - 1); break;
            case 17: call("soon"); break;
            case 18: call("two", blk(), blk(), below(4) - 1); break;
            case 19: call("would", node(), blk()); break;
            case 20: call("chain", blk(), below(9) - 1); break;
            default: call("look", below(23) - 1); break;
        }
    }

    private int liar() {
        for (int i = 0; i < 10; i++) {
            int j = below(model.n);
            if (model.nodes.get(j).mode == 2) return j;
        }
        return node();
    }

    private int leaderSoon() {
        for (int i = 0; i < model.n; i++) if (model.node(i, 11) == 1) return i;
        return node();
    }

    private void storyStep(int style) {
        int w = below(100);
        if (w < 14) call("propose", below(4) == 0 ? node() : leaderSoon(), payload());
        else if (w < 20) call("timeout", node());
        else if (w < 32) call("deliver", place());
        else if (w < 35) call("drop", place());
        else if (w < 36) call("lose", node());
        else if (w < 40) call("turn", below(model.net.size() + 2) - (below(10) == 0 ? 1 : 0));
        else if (w < 44) call("ask", node(), node());
        else if (w < 52) call("storm", below(42), below(4) == 0 ? below(12) - 1 : below(3));
        else if (w < 57) call("calm", style == 3 ? 1 + below(20) : below(4) == 0 ? below(23) - 1 : 1 + below(3));
        else if (w < 61) call("cut", node(), node(), below(3) == 0);
        else if (w < 63) call("mode", node(), below(3) == 0 ? below(5) - 1 : style == 1 ? 2 : 0);
        else if (w < 64) call("image", below(3) > 0);
        else if (w < 65) call("state", random.nextInt());
        else if (w < 66) call(random.nextBoolean() ? "leaders" : "nodes", below(9));
        else if (w < 70) planStep();
        else if (w < 86 && style != 0) lieStep();
        else question();
    }

    private void lieStep() {
        int w = below(10);
        if (w < 3) {
            int v = view();
            int who = v > 0 ? model.lead(v) : node();
            call("lie", who, below(3) == 0 ? 3 : 1, blk(), v, payload());
        } else if (w < 5) {
            int b = blk();
            for (int i = 0; i < model.n && left > 60; i++) call("lie", i, 0, b, 0, 0);
            if (below(2) == 0) call("storm", 40, 0);
        } else if (w < 7) {
            call("lie", liar(), 2, blk(), view(), payload());
        } else {
            call("lie", liar(), below(6) - 1, blk(), view(), payload());
        }
    }

    /** Builds three in a row on some certified BLOCK by lies, so that forks come to be. */
    private void forge() {
        int base = below(model.blocks.size());
        for (int i = 0; i < 20 && model.block(base, 7) != 1; i++) base = below(model.blocks.size());
        int v = Math.max(model.look(12), model.block(base, 0) + 1);
        if (below(2) == 0) v = model.block(base, 0) + 1;
        for (int k = 0; k < 4 && left > 80; k++) {
            int b = call("lie", model.lead(v), 1, base, v, below(1000));
            if (b == NONE) return;
            for (int i = 0; i < model.n; i++) call("lie", i, 0, b, 0, 0);
            if (below(3) == 0) call("turn", below(model.net.size()));
            call("storm", 40, 0);
            call("storm", 40, below(4) == 0 ? 2 : 0);
            base = b;
            v++;
        }
    }

    private static final String[] PIECES = {"propose", "deliver", "drop", "lose", "turn", "timeout", "lie", "mark", "block", "calm",
        ";", " ", "\n", "0", "1", "7", "50", "51", "99", "100", "200", "201", "999", "1000", "20", "21", "12345", "0001", "x", "Lie", "#", "\t"};

    private String text() {
        StringBuilder s = new StringBuilder();
        int lines = below(8) == 0 ? 23 + below(4) : below(8);
        for (int i = 0; i < lines; i++) {
            String n = " " + below(model.n), k = " " + (1 + below(9)), v = " " + Math.max(1, model.look(12) + below(3) - 1);
            String b = " " + Math.max(0, model.blocks.size() - below(3));
            if (lines > 20) { s.append(random.nextBoolean() ? "calm 1;" : "drop 1;"); continue; }
            switch (below(10)) {
                case 0: s.append("propose ").append(leaderSoon()).append(" ").append(below(1000)); break;
                case 1: s.append("deliver").append(k); break;
                case 2: s.append("drop").append(k); break;
                case 3: s.append("lose").append(n); break;
                case 4: s.append("turn").append(k); break;
                case 5: s.append("timeout").append(n); break;
                case 6: s.append("lie").append(n).append(" mark").append(b); break;
                case 7: s.append("lie").append(n).append(" block").append(b).append(v); break;
                case 8: s.append("lie").append(n).append(" timeout").append(v); break;
                default: s.append("calm 1"); break;
            }
            s.append(below(2) == 0 ? ";" : " ;\n");
        }
        for (int i = below(3); i > 0; i--) {
            int at = below(s.length() + 1);
            String piece = PIECES[below(PIECES.length)];
            int what = below(3);
            if (what == 0) s.insert(at, piece);
            else if (what == 1) s.replace(at, Math.min(s.length(), at + piece.length()), piece);
            else s.delete(at, Math.min(s.length(), at + 1 + below(3)));
        }
        if (below(3) == 0) s.setLength(below(s.length() + 1));
        return s.toString();
    }

    private void planStep() {
        String s = text();
        if (s.length() > 400) s = s.substring(0, 400);
        int full = (s.length() + 19) / 20 * 20;
        int[] x = new int[full / 4];
        for (int i = 0; i < full; i++) x[i / 4] = x[i / 4] << 8 | (i < s.length() ? s.charAt(i) : below(256));
        for (int i = 0; i < x.length; i += 5) call("feed", x[i], x[i + 1], x[i + 2], x[i + 3], x[i + 4]);
        if (below(30) == 0) for (int i = 0; i < 21; i++) call("feed", 1, 2, 3, 4, 5);
        call("end", s.length());
        if (below(10) == 0) call("end", below(500) - 20);
        call("plan");
        call("fault", below(2));
        call("fault", below(4) - 1);
        for (int i = 0; i < 3; i++) call("run", below(10) == 0 ? below(28) - 1 : 1 + below(8));
        call("look", 9 + below(2));
    }

    private static final int[] EDGES = {Integer.MIN_VALUE, Integer.MAX_VALUE, -100000, -2, -1, 0, 1, 2, 3, 4, 6, 7, 9, 10, 19, 20, 21,
        24, 25, 39, 40, 41, 50, 59, 60, 99, 100, 199, 200, 201, 255, 400, 999, 1000, 65536};

    /** Any call with any arguments. */
    private void wild() {
        List<String> names = new ArrayList<>(new TreeSet<>(REAL.keySet()));
        String name = names.get(below(names.size()));
        Class<?>[] kinds = REAL.get(name).getParameterTypes();
        Object[] args = new Object[kinds.length];
        for (int i = 0; i < args.length; i++) {
            args[i] = kinds[i] == boolean.class ? (Object) random.nextBoolean()
                : (Object) (below(3) == 0 ? random.nextInt() : EDGES[below(EDGES.length)]);
        }
        call(name, args);
    }

    /** Fills the row beyond what it holds. */
    private void flood() {
        for (int i = 0; i < 60 && left > 90 && model.net.size() < 200; i++) call("lie", liar(), 2, 0, 1 + below(200), 0);
        for (int i = 0; i < 5 && left > 90; i++) {
            call("drop", place());
            storyStep(1);
        }
    }

    /** Asks for all that can be told, so that nothing that is off stays hidden. */
    private void wholeState() {
        for (int w = -1; w < 22; w++) call("look", w);
        for (int i = 0; i < model.n; i++) {
            for (int w = 0; w < 13; w++) call("node", i, w);
            for (int w = 0; w < 7; w++) call("since", i, w);
            for (int k = 0; k < model.nodes.get(i).log.size(); k++) call("log", i, k);
            for (int v = 1; v <= 200; v++) call("timeouts", i, v);
            call("reach", i);
            call("without", i);
            for (int b = 0; b < model.blocks.size(); b++) {
                call("markers", i, b);
                call("marks", i, b);
                call("would", i, b);
            }
            for (int a = 0; a < 5; a++) call("ledger", i, false, a);
        }
        for (int b = 0; b < model.blocks.size(); b++) {
            for (int w = 0; w < 8; w++) call("block", b, w);
            for (int w = 0; w < 7; w++) call("chain", b, w);
            for (int a = 0; a < 5; a++) call("ledger", b, true, a);
            for (int i = -1; i < 5; i++) call("path", b, i);
            for (int c = 0; c < 3; c++) for (int w = 0; w < 2; w++) call("two", b, below(model.blocks.size()), w);
        }
        for (int i = 0; i < model.net.size(); i++) for (int w = 0; w < 5; w++) call("message", i, w);
        for (int i = 0; i < model.evidence.size(); i++) for (int w = 0; w < 5; w++) call("evidence", i, w);
        for (int i = 0; i < model.events.size(); i++) for (int w = 0; w < 3; w++) call("event", i, w);
        for (int w = 0; w < 5; w++) call("audit", w);
        for (int w = 0; w < 4; w++) call("best", w);
        call("soon");
    }

    /** 0 honest ones, 1 liars in mass, 2 a bit of all, 3 long calms, 4 forgers. */
    private void play() {
        int style = (int) (seed % 5);
        if (below(2) == 0) call("nodes", 4 + below(4));
        if (below(2) == 0) call("leaders", below(3));
        call("state", random.nextInt());
        for (int i = 0; i < model.n; i++) {
            if (style == 1 || style == 4) call("mode", i, 2);
            if (style == 2) call("mode", i, below(4) == 0 ? 1 : below(3) == 0 ? 2 : 0);
        }
        while (left > 90 && !off) {
            if (style == 4 && below(6) == 0) forge();
            else if (style == 1 && below(60) == 0) flood();
            else if (below(25) == 0) wild();
            else storyStep(style);
        }
        if (style == 1 || style == 2) for (int i = 0; i < 3 && !off; i++) call("calm", 20);
        wholeState();
        SEEN[0] += model.look(5) > 0 ? 1 : 0;
        SEEN[1] += model.blocks.size() == 100 ? 1 : 0;
        SEEN[2] += model.evidence.size() == 60 ? 1 : 0;
        SEEN[3] += model.events.size() == 100 ? 1 : 0;
        SEEN[4] += model.look(8) > 0 ? 1 : 0;
        SEEN[5] += model.look(7);
        SEEN[6] += model.look(12) > 200 ? 1 : 0;
        SEEN[7] += model.audit(0) > 0 ? 1 : 0;
        SEEN[8] += model.audit(4) > 0 ? 1 : 0;
        SEEN[9] += model.events.stream().anyMatch(e -> e[0] == 1) ? 1 : 0;
        SEEN[10] += model.look(19) > 0 ? 1 : 0;
        SEEN[11] += model.look(9) == 24 ? 1 : 0;
    }

    public static void main(String[] args) {
        int runs = args.length > 0 ? Integer.parseInt(args[0]) : 400;
        int first = args.length > 1 ? Integer.parseInt(args[1]) : 0;
        for (int seed = first; seed < first + runs && wrong < 5; seed++) {
            new ModelRuns(seed).play();
        }
        System.out.println("runs with: lost " + SEEN[0] + ", 100 blocks " + SEEN[1] + ", 60 evidence " + SEEN[2] + ", 100 events "
            + SEEN[3] + ", forks " + SEEN[4] + ", unlike logs " + SEEN[5] + ", view 201 " + SEEN[6] + ", two certificates "
            + SEEN[7] + ", strays " + SEEN[8] + ", unsafe " + SEEN[9] + ", cut " + SEEN[10] + ", 24 lines " + SEEN[11]);
        System.out.println(wrong == 0 ? "all answers are as the model's" : wrong + " runs are not as the model's");
        if (wrong != 0) System.exit(1);
    }
}
