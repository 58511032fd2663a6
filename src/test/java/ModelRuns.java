import java.util.ArrayDeque;
import java.util.ArrayList;
import java.util.Deque;
import java.util.List;
import java.util.Random;
import java.util.Set;
import java.util.TreeMap;
import java.util.TreeSet;

/**
 * Long runs of calls (at most 512 on an object, the seeds being fixed), each answer compared with
 * that of a model that works all out anew from the facts, by the document's words.
 */
public final class ModelRuns {
    private static final int RUNS = 240;
    private static final int CALLS = 512;
    private static final String OUT = "IndexOutOfBoundsException";
    private static final String WRONG = "IllegalArgumentException";
    private static final String STATE = "IllegalStateException";

    private static int wrong = 0;

    public static void main(String[] args) {
        for (int run = 0; run < RUNS && wrong < 20; run++) {
            new Run(run).go();
        }
        System.out.println(wrong == 0 ? "all answers are as due" : wrong + " answers are not as due");
        if (wrong != 0) {
            System.exit(1);
        }
    }

    private record Pair(int a, int b) implements Comparable<Pair> {
        public int compareTo(Pair p) {
            return a != p.a ? Integer.compare(a, p.a) : Integer.compare(b, p.b);
        }
    }

    private static final class Facts {
        final List<Integer> births = new ArrayList<>();
        final List<Integer> atomBirths = new ArrayList<>();
        final Set<Pair> has = new TreeSet<>();
        final Set<Pair> includes = new TreeSet<>();
        final Set<Pair> ones = new TreeSet<>();

        Facts twin() {
            Facts f = new Facts();
            f.births.addAll(births);
            f.atomBirths.addAll(atomBirths);
            f.has.addAll(has);
            f.includes.addAll(includes);
            f.ones.addAll(ones);
            return f;
        }

        void addOne(int v, int w) {
            if (v != w) {
                ones.add(new Pair(Math.min(v, w), Math.max(v, w)));
            }
        }

        int[] nodes() {
            int[] node = new int[births.size()];
            for (int v = 0; v < node.length; v++) {
                node[v] = v;
            }
            for (boolean more = true; more; ) {
                more = false;
                for (Pair p : ones) {
                    int least = Math.min(node[p.a], node[p.b]);
                    more |= node[p.a] != least || node[p.b] != least;
                    node[p.a] = least;
                    node[p.b] = least;
                }
            }
            return node;
        }

        List<Set<Integer>> sets() {
            List<Set<Integer>> sets = new ArrayList<>();
            for (int v = 0; v < births.size(); v++) {
                sets.add(new TreeSet<>());
            }
            for (Pair p : has) {
                sets.get(p.a).add(p.b);
            }
            for (boolean more = true; more; ) {
                more = false;
                for (Pair p : includes) {
                    more |= sets.get(p.a).addAll(sets.get(p.b));
                }
                for (Pair p : ones) {
                    more |= sets.get(p.a).addAll(sets.get(p.b));
                    more |= sets.get(p.b).addAll(sets.get(p.a));
                }
            }
            return sets;
        }

        int atomsInSets() {
            int n = 0;
            for (Set<Integer> s : sets()) {
                n += s.size();
            }
            return n;
        }

        Set<Integer> reach(int node, int[] nodes) {
            Set<Integer> found = new TreeSet<>();
            Deque<Integer> open = new ArrayDeque<>();
            found.add(node);
            open.add(node);
            while (!open.isEmpty()) {
                int n = open.remove();
                for (Pair p : includes) {
                    if (nodes[p.a] == n && found.add(nodes[p.b])) {
                        open.add(nodes[p.b]);
                    }
                }
            }
            return found;
        }

        int ring(int node, int[] nodes) {
            for (int m : reach(node, nodes)) {
                if (reach(m, nodes).contains(node)) {
                    return m;
                }
            }
            throw new AssertionError();
        }

        int level(int node, int[] nodes) {
            int least = 9;
            for (int u = 0; u < nodes.length; u++) {
                if (reach(nodes[u], nodes).contains(node)) {
                    least = Math.min(least, births.get(u));
                }
            }
            return least;
        }

        int atomLevel(int atom, int[] nodes) {
            int least = atomBirths.get(atom);
            for (Pair p : has) {
                if (p.b == atom) {
                    least = Math.min(least, level(nodes[p.a], nodes));
                }
            }
            return least;
        }

        List<Integer> way(int v, int atom) {
            List<List<Integer>> rows = new ArrayList<>();
            Set<Integer> met = new TreeSet<>();
            rows.add(List.of(v));
            met.add(v);
            while (!rows.isEmpty()) {
                for (List<Integer> row : rows) {
                    if (has.contains(new Pair(row.get(row.size() - 1), atom))) {
                        return row;
                    }
                }
                List<List<Integer>> longer = new ArrayList<>();
                for (List<Integer> row : rows) {
                    int last = row.get(row.size() - 1);
                    for (int w = 0; w < births.size(); w++) {
                        boolean step = includes.contains(new Pair(last, w))
                                || ones.contains(new Pair(Math.min(last, w), Math.max(last, w)));
                        if (step && met.add(w)) {
                            List<Integer> next = new ArrayList<>(row);
                            next.add(w);
                            longer.add(next);
                        }
                    }
                }
                rows = longer;
            }
            return List.of();
        }

        int shrink() {
            int[] nodes = nodes();
            int facts = 0;
            for (int n = 0; n < nodes.length; n++) {
                if (nodes[n] == n && ring(n, nodes) != n) {
                    ones.add(new Pair(ring(n, nodes), n));
                    facts++;
                }
            }
            // The rings were looked at while they were being joined: nodes is as it was before.
            return facts;
        }

        int copy(int v, int level) {
            int[] nodes = nodes();
            int node = nodes[v];
            if (level(node, nodes) <= level) {
                return node;
            }
            TreeMap<Integer, Integer> newNode = new TreeMap<>();
            TreeMap<Integer, Integer> newAtom = new TreeMap<>();
            List<Integer> bornNodes = new ArrayList<>();
            List<Integer> bornAtoms = new ArrayList<>();
            for (int n : reach(node, nodes)) {
                int l = level(n, nodes);
                if (l > level) {
                    newNode.put(n, births.size() + bornNodes.size());
                    bornNodes.add(l);
                }
            }
            for (int a = 0; a < atomBirths.size(); a++) {
                boolean had = false;
                for (Pair p : has) {
                    had |= p.b == a && newNode.containsKey(nodes[p.a]);
                }
                int l = atomLevel(a, nodes);
                if (had && l > level) {
                    newAtom.put(a, atomBirths.size() + bornAtoms.size());
                    bornAtoms.add(l);
                }
            }
            if (births.size() + bornNodes.size() > 60 || atomBirths.size() + bornAtoms.size() > 32) {
                return -1;
            }
            births.addAll(bornNodes);
            atomBirths.addAll(bornAtoms);
            for (Pair p : new ArrayList<>(has)) {
                if (newNode.containsKey(nodes[p.a])) {
                    has.add(new Pair(newNode.get(nodes[p.a]), newAtom.getOrDefault(p.b, p.b)));
                }
            }
            for (Pair p : new ArrayList<>(includes)) {
                if (newNode.containsKey(nodes[p.a])) {
                    int to = nodes[p.b];
                    includes.add(new Pair(newNode.get(nodes[p.a]), newNode.getOrDefault(to, to)));
                }
            }
            return newNode.get(node);
        }
    }

    /** A run: its seed also says how many variables and what facts it tends to. */
    private static final class Run {
        final int run;
        final Random random;
        final EffectNets net = new EffectNets();
        final Deque<Facts> marks = new ArrayDeque<>();
        final int eager;
        final int joining;
        final int marking;
        Facts facts = new Facts();

        Run(int run) {
            this.run = run;
            this.random = new Random(7919L * run + 13);
            this.eager = 1 + run % 7;
            this.joining = run / 7 % 4;
            this.marking = run / 28 % 3;
        }

        void go() {
            for (int call = 0; call < CALLS && wrong < 20; call++) {
                int pick = random.nextInt(100);
                if (call < 12 * eager && pick < 70) {
                    make(pick);
                } else if (pick < 45) {
                    tell(pick);
                } else if (pick < 50 + marking * 3) {
                    goBackAndForth();
                } else {
                    look();
                }
            }
        }

        int level() {
            return random.nextInt(14) == 0 ? random.nextInt(40) - 20 : random.nextInt(10);
        }

        int near(int there) {
            return random.nextInt(25) == 0 ? random.nextInt(there + 5) - 2
                    : there == 0 ? 0 : random.nextInt(there);
        }

        int variable() {
            return near(facts.births.size());
        }

        int atom() {
            return near(facts.atomBirths.size());
        }

        boolean noVariable(int v) {
            return v < 0 || v >= facts.births.size();
        }

        boolean noAtom(int a) {
            return a < 0 || a >= facts.atomBirths.size();
        }

        void make(int pick) {
            int birth = level();
            boolean good = birth >= 0 && birth <= 9;
            if (pick < 45) {
                Object want = good ? room(facts.births, 60, birth) : WRONG;
                due("variable(" + birth + ")", () -> net.variable(birth), want);
            } else {
                Object want = good ? room(facts.atomBirths, 32, birth) : WRONG;
                due("atom(" + birth + ")", () -> net.atom(birth), want);
            }
        }

        static Object room(List<Integer> births, int most, int birth) {
            if (births.size() >= most) {
                return -1L;
            }
            births.add(birth);
            return births.size() - 1L;
        }

        void tell(int pick) {
            int v = variable();
            int w = variable();
            int a = atom();
            int before = facts.atomsInSets();
            if (pick < 8) {
                make(random.nextInt(70));
            } else if (pick < 18) {
                boolean bad = noVariable(v) || noAtom(a);
                if (!bad) {
                    facts.has.add(new Pair(v, a));
                }
                due("has(" + v + ", " + a + ")", () -> net.has(v, a), come(bad, before));
            } else if (pick < 35 - 2 * joining) {
                boolean bad = noVariable(v) || noVariable(w);
                if (!bad) {
                    facts.includes.add(new Pair(v, w));
                }
                due("includes(" + v + ", " + w + ")", () -> net.includes(v, w), come(bad, before));
            } else if (pick < 36) {
                boolean bad = noVariable(v) || noVariable(w);
                if (!bad) {
                    facts.addOne(v, w);
                }
                due("one(" + v + ", " + w + ")", () -> net.one(v, w), come(bad, before));
            } else if (pick < 37) {
                due("shrink()", net::shrink, (long) facts.shrink());
            } else {
                int level = random.nextInt(2) == 0 ? random.nextInt(3) : level();
                Object want = noVariable(v) ? OUT
                        : level < 0 || level > 9 ? WRONG : (Object) (long) facts.copy(v, level);
                due("copy(" + v + ", " + level + ")", () -> net.copy(v, level), want);
            }
        }

        Object come(boolean bad, int before) {
            return bad ? OUT : (Object) (long) (facts.atomsInSets() - before);
        }

        void goBackAndForth() {
            if (random.nextInt(3 + 2 * marking) > 1) {
                Object want = -1L;
                if (marks.size() < 20) {
                    marks.push(facts.twin());
                    want = (long) marks.size();
                }
                due("mark()", net::mark, want);
            } else if (marks.isEmpty()) {
                due("back()", net::back, STATE);
            } else {
                long there = marks.size();
                facts = marks.pop();
                due("back()", net::back, there);
            }
        }

        void look() {
            int v = variable();
            int a = atom();
            int[] nodes = facts.nodes();
            switch (random.nextInt(7)) {
                case 0 -> due("set(" + v + ")", () -> net.set(v),
                        noVariable(v) ? OUT : (Object) (long) bits(facts.sets().get(v)));
                case 1 -> lookSeen(v, nodes);
                case 2 -> due("reach(" + v + ")", () -> net.reach(v),
                        noVariable(v) ? OUT : (Object) longBits(facts.reach(nodes[v], nodes)));
                case 3 -> lookOf(v, nodes);
                case 4 -> lookOfAtom(a, nodes);
                case 5 -> lookWay(v, random.nextInt(4) == 0 ? a : atomInSet(v, a));
                default -> lookCount(nodes);
            }
        }

        void lookSeen(int v, int[] nodes) {
            int level = level();
            Object want = OUT;
            if (!noVariable(v)) {
                Set<Integer> seen = new TreeSet<>();
                for (int a : facts.sets().get(v)) {
                    if (facts.atomLevel(a, nodes) <= level) {
                        seen.add(a);
                    }
                }
                want = (long) bits(seen);
            }
            due("seen(" + v + ", " + level + ")", () -> net.seen(v, level), want);
        }

        void lookOf(int v, int[] nodes) {
            int what = random.nextInt(7) - 1;
            Object want = OUT;
            if (!noVariable(v)) {
                long members = 0;
                for (int n : nodes) {
                    members += n == nodes[v] ? 1 : 0;
                }
                want = switch (what) {
                    case 0 -> (long) nodes[v];
                    case 1 -> (long) facts.ring(nodes[v], nodes);
                    case 2 -> (long) facts.level(nodes[v], nodes);
                    case 3 -> (long) facts.births.get(v);
                    case 4 -> members;
                    default -> -1L;
                };
            }
            due("of(" + v + ", " + what + ")", () -> net.of(v, what), want);
        }

        void lookOfAtom(int a, int[] nodes) {
            int what = random.nextInt(5) - 1;
            Object want = OUT;
            if (!noAtom(a)) {
                long in = 0;
                for (Set<Integer> s : facts.sets()) {
                    in += s.contains(a) ? 1 : 0;
                }
                want = switch (what) {
                    case 0 -> (long) facts.atomLevel(a, nodes);
                    case 1 -> (long) facts.atomBirths.get(a);
                    case 2 -> in;
                    default -> -1L;
                };
            }
            due("ofAtom(" + a + ", " + what + ")", () -> net.ofAtom(a, what), want);
        }

        int atomInSet(int v, int other) {
            List<Integer> set = noVariable(v) ? List.of() : new ArrayList<>(facts.sets().get(v));
            return set.isEmpty() ? other : set.get(random.nextInt(set.size()));
        }

        void lookWay(int v, int a) {
            int k = random.nextInt(6) - 1 - (random.nextInt(20) == 0 ? 3 : 0);
            Object want = OUT;
            if (!noVariable(v) && !noAtom(a)) {
                List<Integer> way = facts.way(v, a);
                want = k == -1 ? way.size() : k < 0 || k >= way.size() ? -1L : (long) way.get(k);
            }
            due("way(" + v + ", " + a + ", " + k + ")", () -> net.way(v, a, k), want);
        }

        void lookCount(int[] nodes) {
            int what = random.nextInt(11) - 1;
            long nodesThere = 0;
            long rings = 0;
            for (int n = 0; n < nodes.length; n++) {
                nodesThere += nodes[n] == n ? 1 : 0;
                rings += what == 3 && nodes[n] == n && facts.ring(n, nodes) == n ? 1 : 0;
            }
            long want = switch (what) {
                case 0 -> facts.births.size();
                case 1 -> facts.atomBirths.size();
                case 2 -> nodesThere;
                case 3 -> rings;
                case 4 -> facts.has.size();
                case 5 -> facts.includes.size();
                case 6 -> facts.ones.size();
                case 7 -> marks.size();
                case 8 -> facts.atomsInSets();
                default -> -1L;
            };
            due("count(" + what + ")", () -> net.count(what), want);
        }

        static int bits(Set<Integer> s) {
            return (int) longBits(s);
        }

        static long longBits(Set<Integer> s) {
            long bits = 0;
            for (int n : s) {
                bits |= 1L << n;
            }
            return bits;
        }

        void due(String call, Call made, Object want) {
            Object got;
            try {
                got = made.answer();
            } catch (RuntimeException e) {
                got = e.getClass().getSimpleName();
            }
            if (!got.equals(want)) {
                wrong++;
                System.out.println("run " + run + ": " + call + " answered " + got + ", due is " + want);
            }
        }
    }

    private interface Call {
        long answer();
    }
}
