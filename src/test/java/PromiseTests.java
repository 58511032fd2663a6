/** For each promise of the document: ordinary inputs, the edges that it names, wrong inputs. */
public final class PromiseTests {
    private static final int NONE = EffectNets.NONE;
    private static final int[] OUTSIDE = {-1, 10, Integer.MIN_VALUE, Integer.MAX_VALUE};

    private static int wrong = 0;
    private static String part = "";

    private interface Call {
        long answer();
    }

    public static void main(String[] args) {
        newObject();
        variable();
        atom();
        has();
        includes();
        includesInRings();
        one();
        oneOverOthers();
        shrink();
        shrinkSeveralRings();
        copyOrdinary();
        copyOfNodesWithSeveralVariables();
        copyWithoutLevel();
        copyRoomForVariables();
        copyRoomForAtoms();
        copyOfRingAndWrongInputs();
        mark();
        back();
        backTakesAllBack();
        backOverCopyAndShrink();
        set();
        seen();
        reach();
        of();
        ofAtom();
        way();
        wayOverOneAndLongest();
        count();
        bothWrong();
        System.out.println(wrong == 0 ? "all answers are as due" : wrong + " answers are not as due");
        if (wrong != 0) {
            System.exit(1);
        }
    }

    private static void part(String name) {
        part = name;
    }

    private static void due(String call, long got, long want) {
        if (got != want) {
            wrong++;
            System.out.println(part + ": " + call + " answered " + got + ", due is " + want);
        }
    }

    /** The exception's own class counts: what the machine throws is of a class below it. */
    private static void dueThrow(String call, Class<?> want, EffectNets x, Call made) {
        String before = picture(x);
        Class<?> got = null;
        try {
            made.answer();
        } catch (RuntimeException e) {
            got = e.getClass();
        }
        if (got != want) {
            wrong++;
            System.out.println(part + ": " + call + " threw " + got + ", due is " + want);
        }
        dueSame(call, x, before);
    }

    private static void dueOut(String call, EffectNets x, Call made) {
        dueThrow(call, IndexOutOfBoundsException.class, x, made);
    }

    private static void dueWrong(String call, EffectNets x, Call made) {
        dueThrow(call, IllegalArgumentException.class, x, made);
    }

    private static void dueNone(String call, EffectNets x, Call made) {
        String before = picture(x);
        due(call, made.answer(), NONE);
        dueSame(call, x, before);
    }

    private static void dueSame(String call, EffectNets x, String before) {
        String after = picture(x);
        if (!after.equals(before)) {
            wrong++;
            System.out.println(part + ": " + call + " changed " + before + " to " + after);
        }
    }

    /** Of large nets only the counts, lest an object come to more than 512 calls. */
    private static String picture(EffectNets x) {
        StringBuilder s = new StringBuilder();
        for (int what = 0; what <= 8; what++) {
            s.append(x.count(what)).append(' ');
        }
        int variables = x.count(0);
        for (int v = 0; v < variables && variables <= 9; v++) {
            s.append("| ").append(x.set(v)).append(' ').append(x.reach(v)).append(' ').append(x.of(v, 2));
        }
        return s.toString();
    }

    private static EffectNets variables(int... births) {
        EffectNets x = new EffectNets();
        for (int b : births) {
            x.variable(b);
        }
        return x;
    }

    private static void atoms(EffectNets x, int... births) {
        for (int b : births) {
            x.atom(b);
        }
    }

    private static void newObject() {
        part("promise 1");
        EffectNets x = new EffectNets();
        for (int what = 0; what <= 8; what++) {
            due("count(" + what + ")", x.count(what), 0);
        }
        dueOut("set(0)", x, () -> x.set(0));
        dueOut("ofAtom(0, 0)", x, () -> x.ofAtom(0, 0));
        dueThrow("back()", IllegalStateException.class, x, x::back);
        due("shrink()", x.shrink(), 0);
        EffectNets y = variables(1, 2);
        due("count(0) of another", y.count(0), 2);
        due("count(0)", x.count(0), 0);
    }

    private static void variable() {
        part("promise 2");
        EffectNets x = new EffectNets();
        due("variable(0)", x.variable(0), 0);
        due("variable(9)", x.variable(9), 1);
        for (int birth : OUTSIDE) {
            dueWrong("variable(" + birth + ")", x, () -> x.variable(birth));
        }
        due("of(0, 3)", x.of(0, 3), 0);
        due("of(1, 3)", x.of(1, 3), 9);
        due("set(1)", x.set(1), 0);
        due("reach(1)", x.reach(1), 2);
        for (int v = 2; v < 60; v++) {
            due("variable " + v, x.variable(v % 10), v);
        }
        due("count(0)", x.count(0), 60);
        due("of(59, 3)", x.of(59, 3), 9);
        due("reach(59)", x.reach(59), 1L << 59);
        dueNone("a 61st variable", x, () -> x.variable(5));
        dueOut("of(60, 0)", x, () -> x.of(60, 0));
    }

    private static void atom() {
        part("promise 3");
        EffectNets x = new EffectNets();
        due("atom(0)", x.atom(0), 0);
        due("atom(9)", x.atom(9), 1);
        for (int birth : OUTSIDE) {
            dueWrong("atom(" + birth + ")", x, () -> x.atom(birth));
        }
        for (int a = 2; a < 32; a++) {
            due("atom " + a, x.atom(a % 10), a);
        }
        due("count(1)", x.count(1), 32);
        due("ofAtom(1, 1)", x.ofAtom(1, 1), 9);
        due("ofAtom(31, 1)", x.ofAtom(31, 1), 1);
        dueNone("a 33rd atom", x, () -> x.atom(5));
        dueOut("ofAtom(32, 1)", x, () -> x.ofAtom(32, 1));
    }

    private static void has() {
        part("promise 4");
        EffectNets x = variables(5, 5, 5, 5);
        atoms(x, 5, 5);
        due("has(0, 0)", x.has(0, 0), 1);
        due("has(0, 0) again", x.has(0, 0), 0);
        due("count(4)", x.count(4), 1);
        x.includes(1, 0);
        x.includes(2, 1);
        x.one(2, 3);
        due("has(0, 1)", x.has(0, 1), 4);
        due("has(2, 1): all have it", x.has(2, 1), 0);
        due("count(4)", x.count(4), 3);
        due("set(3)", x.set(3), 3);
        dueOut("has(4, 0)", x, () -> x.has(4, 0));
        dueOut("has(-1, 0)", x, () -> x.has(-1, 0));
        dueOut("has(0, 2)", x, () -> x.has(0, 2));
        dueOut("has(0, -1)", x, () -> x.has(0, -1));
        dueOut("has(0, max)", x, () -> x.has(0, Integer.MAX_VALUE));
        dueOut("has(min, 0)", x, () -> x.has(Integer.MIN_VALUE, 0));
    }

    private static void includes() {
        part("promise 5");
        EffectNets x = variables(5, 5, 5, 5);
        atoms(x, 5, 5, 5);
        x.has(0, 0);
        x.has(0, 1);
        x.has(1, 1);
        due("includes(1, 0)", x.includes(1, 0), 1);
        due("includes(1, 0) again", x.includes(1, 0), 0);
        due("count(5)", x.count(5), 1);
        due("includes(3, 2)", x.includes(3, 2), 0);
        due("includes(2, 1)", x.includes(2, 1), 4);
        due("includes(2, 0): has it all", x.includes(2, 0), 0);
        due("includes(2, 2)", x.includes(2, 2), 0);
        due("includes(2, 2) again", x.includes(2, 2), 0);
        due("count(5)", x.count(5), 5);
        due("set(0)", x.set(0), 3);
        dueOut("includes(4, 0)", x, () -> x.includes(4, 0));
        dueOut("includes(0, 4)", x, () -> x.includes(0, 4));
        dueOut("includes(-1, 0)", x, () -> x.includes(-1, 0));
        dueOut("includes(0, -1)", x, () -> x.includes(0, -1));
    }

    private static void includesInRings() {
        part("promise 5, rings");
        EffectNets x = variables(5, 5, 5);
        atoms(x, 5, 5, 5);
        for (int v = 0; v < 3; v++) {
            x.has(v, v);
        }
        due("includes(0, 1)", x.includes(0, 1), 1);
        due("includes(1, 2)", x.includes(1, 2), 2);
        due("includes(2, 0)", x.includes(2, 0), 3);
    }

    private static void one() {
        part("promise 6");
        EffectNets x = variables(5, 5, 5, 5);
        atoms(x, 5, 5, 5);
        x.has(0, 0);
        x.has(2, 1);
        x.has(2, 2);
        x.includes(3, 0);
        due("one(2, 0)", x.one(2, 0), 5);
        due("count(6)", x.count(6), 1);
        due("one(2, 0) again", x.one(2, 0), 0);
        due("one(0, 2), the same", x.one(0, 2), 0);
        due("one(1, 1), none", x.one(1, 1), 0);
        due("one(3, 3), none", x.one(3, 3), 0);
        due("count(6)", x.count(6), 1);
        due("count(5)", x.count(5), 1);
        due("of(2, 0)", x.of(2, 0), 0);
        due("set(3)", x.set(3), 7);
        due("one(3, 2)", x.one(3, 2), 0);
        due("count(6)", x.count(6), 2);
        dueOut("one(4, 0)", x, () -> x.one(4, 0));
        dueOut("one(0, 4)", x, () -> x.one(0, 4));
        dueOut("one(-1, -1)", x, () -> x.one(-1, -1));
        dueOut("one(4, 4)", x, () -> x.one(4, 4));
    }

    private static void oneOverOthers() {
        part("promise 6, over others");
        EffectNets x = variables(5, 4, 3, 2, 1);
        x.one(4, 3);
        x.one(1, 2);
        due("of(4, 0)", x.of(4, 0), 3);
        x.one(2, 4);
        for (int v = 1; v < 5; v++) {
            due("of(" + v + ", 0)", x.of(v, 0), 1);
            due("of(" + v + ", 4)", x.of(v, 4), 4);
        }
        due("one(1, 3), of one node already", x.one(1, 3), 0);
        due("count(6): a fact all the same", x.count(6), 4);
        due("count(2)", x.count(2), 2);
        due("of(0, 4)", x.of(0, 4), 1);
    }

    private static void shrink() {
        part("promise 7");
        EffectNets x = variables(5, 5, 5, 5, 5);
        atoms(x, 5, 5);
        x.has(0, 0);
        x.includes(1, 2);
        x.includes(2, 3);
        x.includes(3, 1);
        x.includes(4, 1);
        x.includes(1, 0);
        due("shrink()", x.shrink(), 2);
        due("count(6)", x.count(6), 2);
        due("count(5)", x.count(5), 5);
        due("of(3, 0)", x.of(3, 0), 1);
        due("of(2, 0)", x.of(2, 0), 1);
        due("of(4, 0)", x.of(4, 0), 4);
        due("of(0, 0)", x.of(0, 0), 0);
        due("count(2)", x.count(2), 3);
        due("count(3)", x.count(3), 3);
        due("shrink() again", x.shrink(), 0);
        // The facts are between the least number and each other one, not along the ring.
        x.has(3, 1);
        due("way(1, 1, -1)", x.way(1, 1, -1), 2);
        due("way(2, 1, -1)", x.way(2, 1, -1), 2);
        due("one(1, 2), told", x.one(1, 2) + x.count(6), 2);
        due("one(1, 3), told", x.one(1, 3) + x.count(6), 2);
        due("one(2, 3), not told", x.one(2, 3) + x.count(6), 3);
    }

    private static void shrinkSeveralRings() {
        part("promise 7, several rings");
        EffectNets x = variables(1, 2, 3, 4, 5, 6, 7);
        atoms(x, 5);
        x.one(2, 5);
        x.includes(5, 4);
        x.includes(4, 6);
        x.includes(6, 2);
        x.includes(0, 3);
        x.includes(3, 0);
        x.includes(3, 6);
        x.includes(1, 1);
        due("count(3)", x.count(3), 3);
        due("shrink()", x.shrink(), 3);
        due("count(6)", x.count(6), 4);
        due("of(3, 0)", x.of(3, 0), 0);
        due("of(4, 0)", x.of(4, 0), 2);
        due("of(6, 0)", x.of(6, 0), 2);
        due("of(1, 0)", x.of(1, 0), 1);
        due("of(5, 4)", x.of(5, 4), 4);
        due("one(2, 4), told", x.one(2, 4) + x.count(6), 4);
        due("one(2, 6), told", x.one(2, 6) + x.count(6), 4);
        due("one(0, 3), told", x.one(0, 3) + x.count(6), 4);
    }

    private static void copyOrdinary() {
        part("promise 8");
        // 0 (born 6) includes 1 (7), 2 (born 1) and itself; 1 includes 3 (8); 3 includes 2.
        EffectNets x = variables(6, 7, 1, 8);
        atoms(x, 9, 0, 3, 9);
        x.includes(0, 1);
        x.includes(0, 2);
        x.includes(0, 0);
        x.includes(1, 3);
        x.includes(3, 2);
        x.has(0, 0);
        x.has(1, 1);
        x.has(3, 2);
        x.has(2, 3);
        due("copy(0, 2)", x.copy(0, 2), 4);
        due("count(0)", x.count(0), 7);
        due("count(1): of 0 and of 2", x.count(1), 6);
        due("count(4)", x.count(4), 7);
        due("count(5)", x.count(5), 10);
        due("reach(4)", x.reach(4), 0b1110100);
        due("reach(5)", x.reach(5), 0b1100100);
        due("reach(6)", x.reach(6), 0b1000100);
        due("set(4)", x.set(4), 0b111010);
        due("set(5)", x.set(5), 0b101010);
        due("set(6)", x.set(6), 0b101000);
        due("set(0)", x.set(0), 0b001111);
        due("of(4, 3)", x.of(4, 3), 6);
        due("of(5, 3): its node's level", x.of(5, 3), 6);
        due("of(6, 3): its node's level", x.of(6, 3), 6);
        due("ofAtom(4, 1): the atom's level", x.ofAtom(4, 1), 6);
        due("ofAtom(5, 1)", x.ofAtom(5, 1), 3);
        due("way(4, 1, 1)", x.way(4, 1, 1), 5);
        due("includes(4, 4), told", x.includes(4, 4) + x.count(5), 10);
        due("includes(4, 2), told", x.includes(4, 2) + x.count(5), 10);
        due("includes(4, 5), told", x.includes(4, 5) + x.count(5), 10);
        due("includes(5, 6), told", x.includes(5, 6) + x.count(5), 10);
        due("includes(6, 2), told", x.includes(6, 2) + x.count(5), 10);
    }

    private static void copyOfNodesWithSeveralVariables() {
        part("promise 8, nodes");
        EffectNets x = variables(5, 9, 8, 7, 0);
        atoms(x, 9, 9);
        x.one(1, 3);
        x.one(2, 4);
        x.includes(3, 1);
        x.includes(1, 2);
        x.includes(3, 4);
        x.has(1, 0);
        x.has(3, 0);
        x.has(3, 1);
        x.has(4, 1);
        // Node 2 has level 0, by its variable 4: it is not copied, and atom 1 has its level.
        due("copy(3, 0)", x.copy(3, 0), 5);
        due("count(0)", x.count(0), 6);
        due("count(1)", x.count(1), 3);
        due("of(5, 3)", x.of(5, 3), 7);
        due("of(5, 4)", x.of(5, 4), 1);
        due("set(5)", x.set(5), 0b110);
        due("reach(5)", x.reach(5), 0b100100);
        due("count(4): to the new atom, and to 1", x.count(4), 6);
        due("count(5): itself, and 2", x.count(5), 5);
        due("count(6)", x.count(6), 2);
        due("includes(5, 2), told", x.includes(5, 2) + x.count(5), 5);
        due("includes(5, 5), told", x.includes(5, 5) + x.count(5), 5);
    }

    private static void copyWithoutLevel() {
        part("promise 8, no such level");
        EffectNets x = variables(3, 5, 9, 0);
        atoms(x, 9);
        x.one(2, 1);
        x.has(2, 0);
        String before = picture(x);
        due("copy(2, 5): the node's number", x.copy(2, 5), 1);
        due("copy(2, 9)", x.copy(2, 9), 1);
        due("copy(0, 3)", x.copy(0, 3), 0);
        due("copy(3, 0)", x.copy(3, 0), 3);
        dueSame("copy", x, before);
        x.includes(0, 2);
        due("copy(2, 3): reached by 0", x.copy(2, 3), 1);
        due("copy(2, 2)", x.copy(2, 2), 4);
        due("of(4, 3)", x.of(4, 3), 3);
        due("copy(0, 2): both nodes", x.copy(0, 2), 5);
        due("count(0)", x.count(0), 7);
        due("reach(5)", x.reach(5), 0b1100000);
        due("copy(3, 0)", x.copy(3, 0), 3);
    }

    private static void copyRoomForVariables() {
        part("promise 8, room for variables");
        EffectNets x = new EffectNets();
        for (int v = 0; v < 57; v++) {
            x.variable(4);
        }
        x.includes(0, 1);
        x.includes(1, 2);
        x.includes(2, 3);
        dueNone("copy(0, 3): 4 into 3", x, () -> x.copy(0, 3));
        due("copy(1, 3): 3 into 3", x.copy(1, 3), 57);
        due("count(0)", x.count(0), 60);
        due("reach(57)", x.reach(57), 7L << 57);
        dueNone("copy(3, 3): 1 into 0", x, () -> x.copy(3, 3));
        due("copy(3, 4): none is made", x.copy(3, 4), 3);
    }

    private static void copyRoomForAtoms() {
        part("promise 8, room for atoms");
        EffectNets x = variables(5, 5, 5, 0);
        for (int a = 0; a < 29; a++) {
            x.atom(5);
        }
        x.has(0, 0);
        x.has(0, 7);
        x.has(1, 8);
        x.has(1, 7);
        x.has(2, 28);
        x.includes(1, 0);
        x.includes(2, 1);
        dueNone("copy(2, 4): 4 into 3", x, () -> x.copy(2, 4));
        due("copy(1, 4): 3 into 3", x.copy(1, 4), 5);
        due("count(1)", x.count(1), 32);
        due("set(5)", x.set(5), 7 << 29);
        due("set(4)", x.set(4), 3 << 29);
        dueNone("copy(2, 4): no room at all", x, () -> x.copy(2, 4));
        x.has(3, 28);
        x.has(3, 0);
        x.has(3, 7);
        x.has(3, 8);
        due("copy(2, 4): the atoms' levels are not above", x.copy(2, 4), 8);
        due("set(8)", x.set(8), 1 | 1 << 7 | 1 << 8 | 1 << 28);
        due("count(1)", x.count(1), 32);
    }

    private static void copyOfRingAndWrongInputs() {
        part("promise 8, ring, wrong inputs");
        EffectNets x = variables(5, 4);
        atoms(x, 9);
        x.includes(0, 1);
        x.includes(1, 0);
        x.has(1, 0);
        due("copy(1, 0)", x.copy(1, 0), 3);
        due("reach(3)", x.reach(3), 0b1100);
        due("of(3, 1)", x.of(3, 1), 2);
        due("of(2, 3)", x.of(2, 3), 4);
        due("set(2)", x.set(2), 2);
        due("way(2, 1, 1)", x.way(2, 1, 1), 3);
        dueOut("copy(4, 0)", x, () -> x.copy(4, 0));
        dueOut("copy(-1, 9)", x, () -> x.copy(-1, 9));
        for (int level : OUTSIDE) {
            dueWrong("copy(0, " + level + ")", x, () -> x.copy(0, level));
        }
    }

    private static void mark() {
        part("promise 9");
        EffectNets x = variables(1);
        for (int m = 1; m <= 20; m++) {
            due("mark " + m, x.mark(), m);
        }
        dueNone("a 21st mark", x, x::mark);
        due("count(7)", x.count(7), 20);
        due("back()", x.back(), 20);
        due("count(7)", x.count(7), 19);
        due("mark()", x.mark(), 20);
        dueNone("a 21st mark", x, x::mark);
    }

    private static void back() {
        part("promise 10");
        EffectNets x = variables(1);
        dueThrow("back()", IllegalStateException.class, x, x::back);
        for (int m = 1; m <= 20; m++) {
            x.mark();
            due("variable", x.variable(m % 10), m);
        }
        x.mark();
        for (int m = 20; m >= 1; m--) {
            due("back()", x.back(), m);
            due("count(0)", x.count(0), m);
            due("count(7)", x.count(7), m - 1);
        }
        dueThrow("back()", IllegalStateException.class, x, x::back);
    }

    private static void backTakesAllBack() {
        part("promise 10, facts");
        EffectNets x = variables(5, 6, 7);
        atoms(x, 8, 9);
        x.has(2, 1);
        x.includes(1, 2);
        String start = picture(x);
        x.mark();
        x.has(0, 0);
        x.includes(2, 1);
        String middle = picture(x);
        x.mark();
        x.variable(0);
        x.atom(0);
        x.has(3, 2);
        x.has(0, 1);
        x.includes(3, 2);
        x.includes(0, 3);
        x.one(0, 1);
        x.one(3, 1);
        x.one(3, 2);
        x.back();
        // The mark itself is gone too: only its number differs.
        x.mark();
        x.back();
        x.mark();
        due("back()", x.back(), 2);
        dueSame("back() to the second", x, middle);
        due("variable(9), made anew", x.variable(9), 3);
        due("of(3, 3)", x.of(3, 3), 9);
        due("set(3)", x.set(3), 0);
        due("reach(3)", x.reach(3), 8);
        due("count(4)", x.count(4), 2);
        due("count(5)", x.count(5), 2);
        due("count(6)", x.count(6), 0);
        due("atom(9), made anew", x.atom(9), 2);
        due("ofAtom(2, 0)", x.ofAtom(2, 0), 9);
        due("ofAtom(2, 2)", x.ofAtom(2, 2), 0);
        due("one(0, 1), told anew", x.one(0, 1), 3);
        due("count(6)", x.count(6), 1);
        due("back()", x.back(), 1);
        dueSame("back() to the first", x, start);
        due("has(0, 0), told anew", x.has(0, 0), 1);
        due("way(0, 1, -1)", x.way(0, 1, -1), 0);
    }

    private static void backOverCopyAndShrink() {
        part("promise 10, copy and shrink");
        EffectNets x = variables(5, 6, 7);
        atoms(x, 8);
        x.includes(0, 1);
        x.includes(1, 0);
        x.has(1, 0);
        String start = picture(x);
        x.mark();
        x.copy(0, 1);
        x.shrink();
        due("count(6)", x.count(6), 2);
        x.back();
        dueSame("back()", x, start);
        due("of(1, 0)", x.of(1, 0), 1);
        due("of(1, 4)", x.of(1, 4), 1);
        dueOut("set(3)", x, () -> x.set(3));
        dueOut("ofAtom(1, 1)", x, () -> x.ofAtom(1, 1));
    }

    private static void set() {
        part("promise 11");
        EffectNets x = variables(1, 1, 1);
        for (int a = 0; a < 32; a++) {
            x.atom(1);
        }
        x.has(0, 31);
        due("set(0): bit 31", x.set(0), Integer.MIN_VALUE);
        x.has(0, 0);
        due("set(0)", x.set(0), Integer.MIN_VALUE + 1);
        for (int a = 1; a < 31; a++) {
            x.has(1, a);
        }
        x.one(1, 2);
        due("set(2)", x.set(2), 0x7ffffffe);
        x.includes(1, 0);
        due("set(2): all", x.set(2), -1);
        due("set(0)", x.set(0), Integer.MIN_VALUE + 1);
        dueOut("set(3)", x, () -> x.set(3));
        dueOut("set(-1)", x, () -> x.set(-1));
        dueOut("set(max)", x, () -> x.set(Integer.MAX_VALUE));
    }

    private static void seen() {
        part("promise 12");
        EffectNets x = variables(5, 8, 2);
        atoms(x, 9, 3, 0, 9);
        x.includes(0, 1);
        for (int a = 0; a < 3; a++) {
            x.has(1, a);
        }
        due("seen(1, 5)", x.seen(1, 5), 7);
        due("seen(1, 4)", x.seen(1, 4), 6);
        due("seen(1, 3)", x.seen(1, 3), 6);
        due("seen(1, 2)", x.seen(1, 2), 4);
        due("seen(1, 0)", x.seen(1, 0), 4);
        due("seen(1, -1)", x.seen(1, -1), 0);
        due("seen(1, 9)", x.seen(1, 9), 7);
        due("seen(1, 10)", x.seen(1, 10), 7);
        due("seen(1, max)", x.seen(1, Integer.MAX_VALUE), 7);
        due("seen(1, min)", x.seen(1, Integer.MIN_VALUE), 0);
        due("seen(2, 9)", x.seen(2, 9), 0);
        x.has(2, 0);
        due("seen(1, 2): its level is lower by 2", x.seen(1, 2), 5);
        dueOut("seen(3, 0)", x, () -> x.seen(3, 0));
        dueOut("seen(-1, 0)", x, () -> x.seen(-1, 0));
    }

    private static void reach() {
        part("promise 13");
        EffectNets x = variables(1, 1, 1, 1, 1);
        due("reach(4): itself", x.reach(4), 16);
        x.includes(4, 3);
        x.includes(3, 2);
        due("reach(4)", x.reach(4), 0b11100);
        due("reach(2)", x.reach(2), 0b00100);
        x.one(1, 3);
        due("reach(4): nodes alone", x.reach(4), 0b10110);
        due("reach(3)", x.reach(3), 0b00110);
        due("reach(1)", x.reach(1), 0b00110);
        x.includes(2, 4);
        due("reach(2): the ring", x.reach(2), 0b10110);
        due("reach(0)", x.reach(0), 1);
        dueOut("reach(5)", x, () -> x.reach(5));
        dueOut("reach(-1)", x, () -> x.reach(-1));
    }

    private static void of() {
        part("promise 14");
        EffectNets x = variables(9, 7, 5, 6, 0);
        x.one(3, 1);
        x.includes(1, 2);
        x.includes(2, 3);
        due("of(3, 0)", x.of(3, 0), 1);
        due("of(3, 1)", x.of(3, 1), 1);
        due("of(2, 1)", x.of(2, 1), 1);
        due("of(2, 0)", x.of(2, 0), 2);
        due("of(3, 2): by 2, which reaches it", x.of(3, 2), 5);
        due("of(1, 3)", x.of(1, 3), 7);
        due("of(1, 4)", x.of(1, 4), 2);
        due("of(0, 2)", x.of(0, 2), 9);
        x.includes(2, 0);
        due("of(0, 2)", x.of(0, 2), 5);
        due("of(0, 1): no ring", x.of(0, 1), 0);
        due("of(4, 2)", x.of(4, 2), 0);
        x.includes(1, 4);
        due("of(1, 2): a level does not come from what is included", x.of(1, 2), 5);
        x.one(4, 0);
        due("of(0, 2)", x.of(0, 2), 0);
        due("of(0, 4)", x.of(0, 4), 2);
        dueNone("of(0, 5)", x, () -> x.of(0, 5));
        dueNone("of(0, -1)", x, () -> x.of(0, -1));
        dueNone("of(0, max)", x, () -> x.of(0, Integer.MAX_VALUE));
        dueOut("of(5, 0)", x, () -> x.of(5, 0));
        dueOut("of(-1, 4)", x, () -> x.of(-1, 4));
    }

    private static void ofAtom() {
        part("promise 15");
        EffectNets x = variables(6, 4, 2);
        atoms(x, 8, 3);
        due("ofAtom(0, 0)", x.ofAtom(0, 0), 8);
        x.has(0, 0);
        x.has(0, 1);
        due("ofAtom(0, 0): by 0", x.ofAtom(0, 0), 6);
        due("ofAtom(1, 0): its birth", x.ofAtom(1, 0), 3);
        due("ofAtom(0, 2)", x.ofAtom(0, 2), 1);
        x.includes(1, 0);
        due("ofAtom(0, 0): by 1, which reaches 0", x.ofAtom(0, 0), 4);
        due("ofAtom(0, 1)", x.ofAtom(0, 1), 8);
        due("ofAtom(0, 2)", x.ofAtom(0, 2), 2);
        x.one(2, 1);
        due("ofAtom(0, 0)", x.ofAtom(0, 0), 2);
        due("ofAtom(1, 0)", x.ofAtom(1, 0), 2);
        due("ofAtom(1, 2)", x.ofAtom(1, 2), 3);
        dueNone("ofAtom(0, 3)", x, () -> x.ofAtom(0, 3));
        dueNone("ofAtom(0, -1)", x, () -> x.ofAtom(0, -1));
        dueOut("ofAtom(2, 0)", x, () -> x.ofAtom(2, 0));
        dueOut("ofAtom(-1, 0)", x, () -> x.ofAtom(-1, 0));
        dueOut("ofAtom(min, 0)", x, () -> x.ofAtom(Integer.MIN_VALUE, 0));
    }

    private static void dueWay(EffectNets x, int v, int atom, int... row) {
        String call = "way(" + v + ", " + atom + ", ";
        due(call + "-1)", x.way(v, atom, -1), row.length);
        for (int k = 0; k < row.length; k++) {
            due(call + k + ")", x.way(v, atom, k), row[k]);
        }
        due(call + row.length + ")", x.way(v, atom, row.length), NONE);
        due(call + "-2)", x.way(v, atom, -2), NONE);
        due(call + "max)", x.way(v, atom, Integer.MAX_VALUE), NONE);
        due(call + "min)", x.way(v, atom, Integer.MIN_VALUE), NONE);
    }

    private static void way() {
        part("promise 16");
        EffectNets x = variables(1, 1, 1, 1, 1, 1, 1);
        atoms(x, 1, 1);
        dueWay(x, 0, 0);
        // From 6: over 1 and 5 to 4, over 3 and 2 to 4, over 0, which leads nowhere.
        x.includes(6, 0);
        x.includes(6, 3);
        x.includes(3, 2);
        x.includes(2, 4);
        x.has(4, 0);
        dueWay(x, 6, 0, 6, 3, 2, 4);
        x.includes(6, 1);
        x.includes(1, 5);
        x.includes(5, 4);
        dueWay(x, 6, 0, 6, 1, 5, 4);
        x.includes(3, 4);
        dueWay(x, 6, 0, 6, 3, 4);
        x.has(2, 0);
        dueWay(x, 6, 0, 6, 3, 2);
        x.has(6, 0);
        dueWay(x, 6, 0, 6);
        dueWay(x, 4, 0, 4);
        dueWay(x, 0, 0);
        dueWay(x, 6, 1);
        dueOut("way(7, 0, 0)", x, () -> x.way(7, 0, 0));
        dueOut("way(-1, 0, -1)", x, () -> x.way(-1, 0, -1));
        dueOut("way(0, 2, -1)", x, () -> x.way(0, 2, -1));
        dueOut("way(0, -1, 5)", x, () -> x.way(0, -1, 5));
    }

    private static void wayOverOneAndLongest() {
        part("promise 16, over ONE, the longest");
        EffectNets x = variables(1, 1, 1, 1);
        atoms(x, 1);
        x.has(3, 0);
        x.one(3, 1);
        x.one(1, 0);
        x.includes(2, 0);
        // 0 and 3 are of one node, but that was told of 1 with each alone.
        dueWay(x, 0, 0, 0, 1, 3);
        dueWay(x, 2, 0, 2, 0, 1, 3);
        x.includes(3, 2);
        dueWay(x, 1, 0, 1, 3);
        EffectNets y = new EffectNets();
        for (int v = 0; v < 60; v++) {
            y.variable(9);
        }
        y.atom(9);
        for (int v = 59; v > 0; v--) {
            y.includes(v, v - 1);
        }
        y.has(0, 0);
        due("way(59, 0, -1)", y.way(59, 0, -1), 60);
        due("way(59, 0, 0)", y.way(59, 0, 0), 59);
        due("way(59, 0, 59)", y.way(59, 0, 59), 0);
        due("way(59, 0, 60)", y.way(59, 0, 60), NONE);
    }

    private static void count() {
        part("promise 17");
        EffectNets x = variables(1, 2, 3, 4);
        atoms(x, 1, 2, 3);
        x.mark();
        x.has(0, 0);
        x.has(0, 0);
        x.has(1, 2);
        x.includes(2, 0);
        x.includes(2, 2);
        x.includes(0, 3);
        x.includes(3, 0);
        x.one(1, 2);
        x.one(2, 1);
        long[] want = {4, 3, 3, 2, 2, 4, 1, 1, 6};
        for (int what = 0; what < want.length; what++) {
            due("count(" + what + ")", x.count(what), want[what]);
        }
        dueNone("count(9)", x, () -> x.count(9));
        dueNone("count(-1)", x, () -> x.count(-1));
        dueNone("count(max)", x, () -> x.count(Integer.MAX_VALUE));
        dueNone("count(min)", x, () -> x.count(Integer.MIN_VALUE));
    }

    /** Where an exception and NONE, or two exceptions, would be due: the document's first one. */
    private static void bothWrong() {
        part("both wrong");
        EffectNets x = new EffectNets();
        for (int v = 0; v < 60; v++) {
            x.variable(9);
        }
        for (int a = 0; a < 32; a++) {
            x.atom(9);
        }
        dueWrong("variable(10) without room", x, () -> x.variable(10));
        dueWrong("atom(-1) without room", x, () -> x.atom(-1));
        dueOut("copy(60, 10)", x, () -> x.copy(60, 10));
        dueWrong("copy(0, 10) without room", x, () -> x.copy(0, 10));
        dueOut("of(60, 9)", x, () -> x.of(60, 9));
        dueOut("ofAtom(32, 9)", x, () -> x.ofAtom(32, 9));
        dueOut("way(60, 0, -7)", x, () -> x.way(60, 0, -7));
    }
}
