/**
 * Effects as they are gathered while a program is read: variables that have atoms, include one
 * another and become one; what each one has is always known, with levels; nets are copied for each
 * use; all is taken back to marks.
 */
public final class EffectNets {
    /** There is none; there is no room. */
    public static final int NONE = -1;

    private static final int MOST_VARIABLES = 60;
    private static final int MOST_ATOMS = 32;
    private static final int MOST_MARKS = 20;
    private static final int HIGHEST_LEVEL = 9;

    private final Net net;
    private final Net[] kept;
    private final Copier copier;
    private final WayFinder wayFinder;
    private int marks;

    public EffectNets() {
        net = new Net();
        copier = new Copier();
        wayFinder = new WayFinder();
        marks = 0;
        kept = new Net[MOST_MARKS];
        for (int m = 0; m < MOST_MARKS; m++) {
            kept[m] = new Net();
        }
    }

    public int variable(int birth) throws IllegalArgumentException {
        requireLevel(birth);
        return net.addVariable(birth);
    }

    public int atom(int birth) throws IllegalArgumentException {
        requireLevel(birth);
        return net.addAtom(birth);
    }

    public int has(int v, int atom) throws IndexOutOfBoundsException {
        requireVariable(v);
        requireAtom(atom);
        return net.tellHas(v, atom);
    }

    public int includes(int v, int w) throws IndexOutOfBoundsException {
        requireVariable(v);
        requireVariable(w);
        return net.tellIncludes(v, w);
    }

    public int one(int v, int w) throws IndexOutOfBoundsException {
        requireVariable(v);
        requireVariable(w);
        return net.tellOne(v, w);
    }

    public int shrink() {
        return net.joinRings();
    }

    public int copy(int v, int level) throws IndexOutOfBoundsException, IllegalArgumentException {
        requireVariable(v);
        requireLevel(level);
        return copier.copyAbove(net, v, level);
    }

    public int mark() {
        if (marks >= MOST_MARKS) {
            return NONE;
        }
        kept[marks].takeFrom(net);
        marks++;
        return marks;
    }

    public int back() throws IllegalStateException {
        if (marks <= 0) {
            throw new IllegalStateException("there is no mark");
        }
        int there = marks;
        marks--;
        net.takeFrom(kept[marks]);
        return there;
    }

    // ---- what is seen

    public int set(int v) throws IndexOutOfBoundsException {
        requireVariable(v);
        return net.sets[v];
    }

    public int seen(int v, int level) throws IndexOutOfBoundsException {
        requireVariable(v);
        return net.sets[v] & net.atomsUpTo(level);
    }

    public long reach(int v) throws IndexOutOfBoundsException {
        requireVariable(v);
        return net.nodesAmong(net.reached[v]);
    }

    public int of(int v, int what) throws IndexOutOfBoundsException {
        requireVariable(v);
        switch (what) {
            case 0: return net.numbers[v];
            case 1: return net.leastOfRing(v);
            case 2: return net.levelOf(v);
            case 3: return net.births[v];
            case 4: return net.membersOf(net.numbers[v]);
            default: return NONE;
        }
    }

    public int ofAtom(int atom, int what) throws IndexOutOfBoundsException {
        requireAtom(atom);
        switch (what) {
            case 0: return net.levelOfAtom(atom);
            case 1: return net.atomBirths[atom];
            case 2: return net.setsWith(atom);
            default: return NONE;
        }
    }

    public int way(int v, int atom, int k) throws IndexOutOfBoundsException {
        requireVariable(v);
        requireAtom(atom);
        int length = wayFinder.lengthFrom(net, v, atom);
        if (k == -1) {
            return length;
        }
        if (k < 0 || k >= length) {
            return NONE;
        }
        return wayFinder.variableAt(net, v, length, k);
    }

    public int count(int what) {
        switch (what) {
            case 0: return net.variables;
            case 1: return net.atoms;
            case 2: return net.nodes();
            case 3: return net.rings();
            case 4: return bitsOfInts(net.had, net.variables);
            case 5: return bitsOfLongs(net.included, net.variables);
            // Each fact ONE stands in the rows of both its variables.
            case 6: return bitsOfLongs(net.joined, net.variables) / 2;
            case 7: return marks;
            case 8: return bitsOfInts(net.sets, net.variables);
            default: return NONE;
        }
    }

    private void requireVariable(int v) {
        if (v < 0 || v >= net.variables) {
            throw new IndexOutOfBoundsException("there is no such variable");
        }
    }

    private void requireAtom(int atom) {
        if (atom < 0 || atom >= net.atoms) {
            throw new IndexOutOfBoundsException("there is no such atom");
        }
    }

    private static void requireLevel(int level) {
        if (level < 0 || level > HIGHEST_LEVEL) {
            throw new IllegalArgumentException("the level is not 0 .. 9");
        }
    }

    private static long bit(int n) {
        return 1L << n;
    }

    private static boolean contains(long mask, int n) {
        return (mask >>> n & 1L) != 0;
    }

    private static boolean containsAtom(int atoms, int atom) {
        return (atoms >>> atom & 1) != 0;
    }

    private static int least(long mask) {
        for (int n = 0; n < MOST_VARIABLES; n++) {
            if (contains(mask, n)) {
                return n;
            }
        }
        return NONE;
    }

    private static int bitsOfInts(int[] rows, int used) {
        int bits = 0;
        for (int r = 0; r < used && r < rows.length; r++) {
            bits += Integer.bitCount(rows[r]);
        }
        return bits;
    }

    private static int bitsOfLongs(long[] rows, int used) {
        int bits = 0;
        for (int r = 0; r < used && r < rows.length; r++) {
            bits += Long.bitCount(rows[r]);
        }
        return bits;
    }

    /**
     * The facts as they were told, and what follows from them, kept up with each new fact. Its
     * methods are called with numbers of variables and atoms that there are.
     */
    private static final class Net {
        int variables = 0;
        int atoms = 0;
        final int[] births = new int[MOST_VARIABLES];
        final int[] atomBirths = new int[MOST_ATOMS];

        /** Told: the atoms that a variable HAS, the variables that it INCLUDES, or is ONE with. */
        final int[] had = new int[MOST_VARIABLES];
        final long[] included = new long[MOST_VARIABLES];
        final long[] joined = new long[MOST_VARIABLES];

        /** Following: a variable's node, the variables of all nodes that this reaches, the set. */
        final int[] numbers = new int[MOST_VARIABLES];
        final long[] reached = new long[MOST_VARIABLES];
        final int[] sets = new int[MOST_VARIABLES];

        void takeFrom(Net other) {
            variables = other.variables;
            atoms = other.atoms;
            System.arraycopy(other.births, 0, births, 0, variables);
            System.arraycopy(other.atomBirths, 0, atomBirths, 0, atoms);
            System.arraycopy(other.had, 0, had, 0, variables);
            System.arraycopy(other.included, 0, included, 0, variables);
            System.arraycopy(other.joined, 0, joined, 0, variables);
            System.arraycopy(other.numbers, 0, numbers, 0, variables);
            System.arraycopy(other.reached, 0, reached, 0, variables);
            System.arraycopy(other.sets, 0, sets, 0, variables);
        }

        int addVariable(int birth) {
            if (variables >= MOST_VARIABLES) {
                return NONE;
            }
            int v = variables;
            births[v] = birth;
            // The rows may hold what was taken back.
            had[v] = 0;
            included[v] = 0L;
            joined[v] = 0L;
            numbers[v] = v;
            reached[v] = bit(v);
            sets[v] = 0;
            variables++;
            return v;
        }

        int addAtom(int birth) {
            if (atoms >= MOST_ATOMS) {
                return NONE;
            }
            int atom = atoms;
            atomBirths[atom] = birth;
            atoms++;
            return atom;
        }

        boolean hasRoomFor(int moreVariables, int moreAtoms) {
            return moreVariables <= MOST_VARIABLES - variables && moreAtoms <= MOST_ATOMS - atoms;
        }

        int tellHas(int v, int atom) {
            int atomBit = 1 << atom;
            had[v] |= atomBit;
            return spread(v, 0L, atomBit);
        }

        int tellIncludes(int v, int w) {
            included[v] |= bit(w);
            return link(v, w);
        }

        int tellOne(int v, int w) {
            if (v == w) {
                return 0;
            }
            joined[v] |= bit(w);
            joined[w] |= bit(v);
            mergeNodes(numbers[v], numbers[w]);
            return link(v, w) + link(w, v);
        }

        private void mergeNodes(int n, int m) {
            int least = Math.min(n, m);
            for (int u = 0; u < variables; u++) {
                if (numbers[u] == n || numbers[u] == m) {
                    numbers[u] = least;
                }
            }
        }

        private int link(int v, int w) {
            if (contains(reached[v], w)) {
                return 0;
            }
            return spread(v, reached[w], sets[w]);
        }

        /** To all that reaches v come variables and atoms: how many atoms come to sets. */
        private int spread(int v, long moreReached, int moreAtoms) {
            int come = 0;
            for (int u = 0; u < variables; u++) {
                if (contains(reached[u], v)) {
                    come += Integer.bitCount(moreAtoms & ~sets[u]);
                    sets[u] |= moreAtoms;
                    reached[u] |= moreReached;
                }
            }
            return come;
        }

        int joinRings() {
            int facts = 0;
            for (int least = 0; least < variables; least++) {
                // A node that is not the least of its ring has become one with that before.
                if (numbers[least] == least) {
                    facts += joinRingOf(least);
                }
            }
            return facts;
        }

        private int joinRingOf(int least) {
            int facts = 0;
            for (int n = least + 1; n < variables; n++) {
                if (numbers[n] == n && inOneRing(least, n)) {
                    tellOne(least, n);
                    facts++;
                }
            }
            return facts;
        }

        private boolean inOneRing(int v, int w) {
            return contains(reached[v], w) && contains(reached[w], v);
        }

        int leastOfRing(int v) {
            for (int u = 0; u < v; u++) {
                if (inOneRing(u, v)) {
                    return u;
                }
            }
            return v;
        }

        int nodes() {
            int there = 0;
            for (int v = 0; v < variables; v++) {
                if (numbers[v] == v) {
                    there++;
                }
            }
            return there;
        }

        int rings() {
            int there = 0;
            for (int v = 0; v < variables; v++) {
                if (leastOfRing(v) == v) {
                    there++;
                }
            }
            return there;
        }

        int membersOf(int node) {
            int members = 0;
            for (int v = 0; v < variables; v++) {
                if (numbers[v] == node) {
                    members++;
                }
            }
            return members;
        }

        int levelOf(int v) {
            int level = births[v];
            for (int u = 0; u < variables; u++) {
                if (contains(reached[u], v)) {
                    level = Math.min(level, births[u]);
                }
            }
            return level;
        }

        /** The variables that reach one that HAS the atom are just those whose sets it is in. */
        int levelOfAtom(int atom) {
            int level = atomBirths[atom];
            for (int u = 0; u < variables; u++) {
                if (containsAtom(sets[u], atom)) {
                    level = Math.min(level, births[u]);
                }
            }
            return level;
        }

        int setsWith(int atom) {
            int there = 0;
            for (int v = 0; v < variables; v++) {
                if (containsAtom(sets[v], atom)) {
                    there++;
                }
            }
            return there;
        }

        /** The variables of nodes with levels not above a level. */
        long variablesUpTo(int level) {
            long found = 0L;
            for (int u = 0; u < variables; u++) {
                if (births[u] <= level) {
                    found |= reached[u];
                }
            }
            return found;
        }

        /** The atoms with levels not above a level. */
        int atomsUpTo(int level) {
            int found = 0;
            for (int u = 0; u < variables; u++) {
                if (births[u] <= level) {
                    found |= sets[u];
                }
            }
            for (int a = 0; a < atoms; a++) {
                if (atomBirths[a] <= level) {
                    found |= 1 << a;
                }
            }
            return found;
        }

        /** The numbers of the nodes of some variables. */
        long nodesAmong(long some) {
            long found = 0L;
            for (int v = 0; v < variables; v++) {
                if (contains(some, v)) {
                    found |= bit(numbers[v]);
                }
            }
            return found;
        }

        int hadByNodes(long nodes) {
            int found = 0;
            for (int v = 0; v < variables; v++) {
                if (contains(nodes, numbers[v])) {
                    found |= had[v];
                }
            }
            return found;
        }

        long nodesIncludedByNode(int node) {
            long found = 0L;
            for (int v = 0; v < variables; v++) {
                if (numbers[v] == node) {
                    found |= included[v];
                }
            }
            return nodesAmong(found);
        }

        /** The variables that HAVE the atom, as told. */
        long holdersOf(int atom) {
            long found = 0L;
            for (int v = 0; v < variables; v++) {
                if (containsAtom(had[v], atom)) {
                    found |= bit(v);
                }
            }
            return found;
        }

        /** The variables that a way may go on to from v. */
        long nextOf(int v) {
            return included[v] | joined[v];
        }

        /** The variables from which a way may go on to one of some. */
        long leadingTo(long some) {
            long found = 0L;
            for (int v = 0; v < variables; v++) {
                if ((nextOf(v) & some) != 0) {
                    found |= bit(v);
                }
            }
            return found;
        }
    }

    /** Makes copies. What stands for each node and atom in the copy is kept here meanwhile. */
    private static final class Copier {
        private final int[] variableFor = new int[MOST_VARIABLES];
        private final int[] atomFor = new int[MOST_ATOMS];

        int copyAbove(Net net, int v, int level) {
            int node = net.numbers[v];
            long nodes = net.nodesAmong(net.reached[v] & ~net.variablesUpTo(level));
            if (!contains(nodes, node)) {
                return node;
            }
            int atoms = net.hadByNodes(nodes) & ~net.atomsUpTo(level);
            if (!net.hasRoomFor(Long.bitCount(nodes), Integer.bitCount(atoms))) {
                return NONE;
            }
            makeVariables(net, nodes);
            makeAtoms(net, atoms);
            // The copies' own rows are not read below: their numbers are not in nodes.
            for (int n = 0; n < MOST_VARIABLES; n++) {
                if (contains(nodes, n)) {
                    tellOfCopy(net, n);
                }
            }
            return variableFor[node];
        }

        private void makeVariables(Net net, long nodes) {
            int before = net.variables;
            for (int n = 0; n < before; n++) {
                variableFor[n] = contains(nodes, n) ? net.addVariable(net.levelOf(n)) : n;
            }
        }

        private void makeAtoms(Net net, int atoms) {
            int before = net.atoms;
            for (int a = 0; a < before; a++) {
                atomFor[a] = containsAtom(atoms, a) ? net.addAtom(net.levelOfAtom(a)) : a;
            }
        }

        private void tellOfCopy(Net net, int node) {
            int had = net.hadByNodes(bit(node));
            for (int a = 0; a < MOST_ATOMS; a++) {
                if (containsAtom(had, a)) {
                    net.tellHas(variableFor[node], atomFor[a]);
                }
            }
            long included = net.nodesIncludedByNode(node);
            for (int n = 0; n < MOST_VARIABLES; n++) {
                if (contains(included, n)) {
                    net.tellIncludes(variableFor[node], variableFor[n]);
                }
            }
        }
    }

    /** Finds THE way from its end, so that each step along it can take the least variable. */
    private static final class WayFinder {
        /** Row d: the variables from which d steps may lead to one that HAS the atom. */
        private final long[] layers = new long[MOST_VARIABLES];

        int lengthFrom(Net net, int v, int atom) {
            if (!containsAtom(net.sets[v], atom)) {
                return 0;
            }
            long layer = net.holdersOf(atom);
            for (int d = 0; d < MOST_VARIABLES; d++) {
                layers[d] = layer;
                if (contains(layer, v)) {
                    return d + 1;
                }
                layer = net.leadingTo(layer);
            }
            return 0;
        }

        /** Of the way whose length was found last, variable k; k is below that length. */
        int variableAt(Net net, int v, int length, int k) {
            int at = v;
            for (int step = 1; step <= k && at != NONE; step++) {
                at = least(net.nextOf(at) & layers[length - 1 - step]);
            }
            return at;
        }
    }
}
