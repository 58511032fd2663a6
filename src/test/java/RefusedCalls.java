import java.util.ArrayList;
import java.util.List;

/**
 * The document's sentences that refuse a call, by an exception or by NONE, one by one; and with
 * each refused call: "What throws, or answers NONE, changes nothing."
 */
public final class RefusedCalls {
    private static final int MIN = Integer.MIN_VALUE;
    private static final int MAX = Integer.MAX_VALUE;
    private static final int[] NO_LEVELS = {-1, 10, -2, 11, 32, 64, 256, MIN, MAX};

    /** An empty object, small ones with a mark, one with numbers gone back, one without room. */
    private enum State {
        EMPTY(0, 0), SMALL(4, 3), GONE_BACK(4, 3), GONE_BACK_TO_EMPTY(0, 0), FULL(60, 32);

        final int variables;
        final int atoms;

        State(int variables, int atoms) {
            this.variables = variables;
            this.atoms = atoms;
        }

        CallRun run() {
            return switch (this) {
                case EMPTY -> new CallRun();
                case SMALL -> small();
                case GONE_BACK -> thereAndBack(small());
                case GONE_BACK_TO_EMPTY -> thereAndBack(new CallRun());
                case FULL -> full();
            };
        }

        int[] noVariables() {
            return outside(variables, 60);
        }

        int[] noAtoms() {
            return outside(atoms, 32);
        }

        /** Below 0, not below how many there are, and where shifts wrap round. */
        private static int[] outside(int there, int most) {
            return new int[] {-1, -2, MIN, there, there + 1, there + 64, most, most + 1, 64, MAX};
        }
    }

    public static void main(String[] args) {
        variable();
        atom();
        has();
        includes();
        one();
        copy();
        copyLevel();
        copyRoom();
        copyNothingMade();
        mark();
        back();
        set();
        seen();
        reach();
        of();
        ofAtom();
        way();
        wayPlaces();
        count();
        exceptionsComeFirst();
        CallRun.end();
    }

    private static void sentence(String words, State state) {
        CallRun.sentence(words + " [" + state + "]");
    }

    private static CallRun small() {
        return new CallRun()
                .call("variable", 5).call("variable", 3).call("variable", 7).call("variable", 1)
                .call("atom", 9).call("atom", 2)
                .call("includes", 0, 1).call("has", 2, 0)
                .call("mark")
                .call("atom", 4)
                .call("includes", 1, 2).call("includes", 2, 2).call("has", 1, 1).call("one", 0, 3);
    }

    /** Six variables and five atoms are made, told of and taken back. */
    private static CallRun thereAndBack(CallRun run) {
        return run.call("mark")
                .call("variable", 1).call("variable", 1).call("variable", 1).call("variable", 1)
                .call("variable", 1).call("variable", 1)
                .call("atom", 1).call("atom", 1).call("atom", 1).call("atom", 1).call("atom", 1)
                .call("has", 5, 4).call("includes", 0, 5).call("one", 4, 1).call("has", 0, 3)
                .call("includes", 5, 5)
                .call("back");
    }

    private static CallRun full() {
        CallRun run = new CallRun();
        for (int v = 0; v < 60; v++) {
            run.call("variable", (v + 3) % 10);
            if (v % 2 == 0 && v < 32) {
                run.call("mark");
            }
        }
        for (int a = 0; a < 32; a++) {
            run.call("atom", (a + 7) % 10);
        }
        for (int v = 0; v < 60; v++) {
            if (v % 3 == 0) {
                run.call("has", v, v % 32);
            }
            if (v % 4 != 3) {
                run.call("includes", v, v + 1);
            }
            if (v % 15 == 0) {
                run.call("mark");
            }
        }
        return run.call("one", 59, 2).call("one", 30, 31).call("includes", 57, 56).call("has", 59, 31);
    }

    private static void dueOut(CallRun run, String name, List<int[]> calls) {
        for (int[] args : calls) {
            run.unchanged(CallRun.OUT, name, args);
        }
    }

    /** A call of a variable and one argument more, the variable being none. */
    private static List<int[]> withoutVariable(State state, int more) {
        List<int[]> found = new ArrayList<>();
        for (int v : state.noVariables()) {
            found.add(new int[] {v, more});
        }
        return found;
    }

    private static List<int[]> pairsWithoutVariable(State state) {
        List<int[]> found = new ArrayList<>();
        for (int v : state.noVariables()) {
            found.add(new int[] {v, 0});
            found.add(new int[] {0, v});
            found.add(new int[] {v, v});
        }
        found.add(new int[] {-1, state.variables});
        return found;
    }

    private static void variable() {
        CallRun.sentence("2: NONE if there are 60.");
        CallRun run = State.FULL.run();
        for (int birth = 0; birth <= 9; birth++) {
            run.unchanged(CallRun.NONE, "variable", birth);
        }
        dueNoLevels("2: IllegalArgumentException: its birth is not 0 .. 9.", "variable");
    }

    private static void atom() {
        CallRun.sentence("3: NONE if there are 32.");
        CallRun run = State.FULL.run();
        for (int birth = 0; birth <= 9; birth++) {
            run.unchanged(CallRun.NONE, "atom", birth);
        }
        dueNoLevels("3: IllegalArgumentException: its birth is not 0 .. 9.", "atom");
    }

    private static void dueNoLevels(String words, String name) {
        for (State state : State.values()) {
            sentence(words, state);
            CallRun run = state.run();
            for (int birth : NO_LEVELS) {
                run.unchanged(CallRun.WRONG, name, birth);
            }
        }
    }

    private static void has() {
        for (State state : State.values()) {
            sentence("4: IndexOutOfBoundsException, of the variable.", state);
            dueOut(state.run(), "has", withoutVariable(state, 0));
        }
        for (State state : State.values()) {
            sentence("4: IndexOutOfBoundsException, of the atom.", state);
            CallRun run = state.run();
            for (int a : state.noAtoms()) {
                run.unchanged(CallRun.OUT, "has", 0, a);
                run.unchanged(CallRun.OUT, "has", -1, a);
            }
        }
    }

    private static void includes() {
        for (State state : State.values()) {
            sentence("5: IndexOutOfBoundsException.", state);
            dueOut(state.run(), "includes", pairsWithoutVariable(state));
        }
    }

    private static void one() {
        for (State state : State.values()) {
            sentence("6: IndexOutOfBoundsException.", state);
            dueOut(state.run(), "one", pairsWithoutVariable(state));
        }
    }

    private static void copy() {
        for (State state : State.values()) {
            sentence("8: IndexOutOfBoundsException: no such variable.", state);
            dueOut(state.run(), "copy", withoutVariable(state, 0));
            dueOut(state.run(), "copy", withoutVariable(state, 9));
        }
    }

    private static void copyLevel() {
        for (State state : State.values()) {
            sentence("8: IllegalArgumentException: the level is not 0 .. 9.", state);
            CallRun run = state.run();
            for (int level : state.variables == 0 ? new int[0] : NO_LEVELS) {
                run.unchanged(CallRun.WRONG, "copy", 0, level);
                run.unchanged(CallRun.WRONG, "copy", 3, level);
            }
        }
    }

    private static void copyRoom() {
        CallRun.sentence("8: NONE if there is no room for all (variables).");
        // A chain of four, born at 4, with an atom at its end.
        CallRun run = new CallRun().times(57, "variable", 4).call("atom", 9).call("mark");
        run.call("includes", 0, 1).call("includes", 1, 2).call("includes", 2, 3).call("has", 3, 0);
        run.unchanged(CallRun.NONE, "copy", 0, 3);
        run.unchanged(CallRun.NONE, "copy", 0, 0);
        run.call("variable", 0);
        run.unchanged(CallRun.NONE, "copy", 1, 3);
        run.call("variable", 0).call("variable", 0);
        run.unchanged(CallRun.NONE, "copy", 3, 3);
        run.unchanged(CallRun.NONE, "copy", 56, 0);

        CallRun.sentence("8: NONE if there is no room for all (atoms).");
        CallRun few = new CallRun().times(3, "variable", 5).times(29, "atom", 5).call("mark");
        few.call("includes", 0, 1).call("includes", 1, 2);
        few.call("has", 0, 28).call("has", 1, 27).call("has", 1, 0).call("has", 2, 1);
        few.unchanged(CallRun.NONE, "copy", 0, 4);
        few.unchanged(CallRun.NONE, "copy", 0, 0);
        few.call("atom", 5);
        few.unchanged(CallRun.NONE, "copy", 1, 4);
        few.call("atom", 5).call("atom", 5);
        few.unchanged(CallRun.NONE, "copy", 2, 4);
    }

    private static void copyNothingMade() {
        CallRun.sentence("8: Without such a level of the node: its number, and nothing is made.");
        CallRun small = State.SMALL.run();
        small.unchanged("0", "copy", 3, 1).unchanged("0", "copy", 0, 9).unchanged("1", "copy", 1, 1);
        small.unchanged("2", "copy", 2, 1).unchanged("2", "copy", 2, 9).due(4, "copy", 0, 0);
        // There is no room, but none is needed; 59 is ONE with 2, and 57, born at 0, reaches both.
        State.FULL.run().unchanged("2", "copy", 59, 0).unchanged("2", "copy", 59, 9)
                .unchanged("57", "copy", 57, 0).unchanged("30", "copy", 31, 9);
    }

    private static void mark() {
        CallRun.sentence("9: NONE if there are 20.");
        State.FULL.run().due(20, "count", 7)
                .unchanged(CallRun.NONE, "mark").unchanged(CallRun.NONE, "mark").due(20, "back")
                .due(20, "mark").unchanged(CallRun.NONE, "mark");
        new CallRun().times(20, "mark").unchanged(CallRun.NONE, "mark").due(20, "back");
    }

    private static void back() {
        CallRun.sentence("10: IllegalStateException: there is none.");
        new CallRun().unchanged(CallRun.STATE, "back").unchanged(CallRun.STATE, "back").due(1, "mark");
        new CallRun().call("variable", 3).call("atom", 4).call("has", 0, 0)
                .unchanged(CallRun.STATE, "back");
        State.SMALL.run().due(1, "back").unchanged(CallRun.STATE, "back");
        State.GONE_BACK.run().due(1, "back").unchanged(CallRun.STATE, "back");
        State.FULL.run().times(20, "back").unchanged(CallRun.STATE, "back").due(1, "mark");
    }

    private static void set() {
        for (State state : State.values()) {
            sentence("11: IndexOutOfBoundsException.", state);
            dueOutOfVariable(state, "set");
        }
    }

    private static void reach() {
        for (State state : State.values()) {
            sentence("13: IndexOutOfBoundsException.", state);
            dueOutOfVariable(state, "reach");
        }
    }

    private static void dueOutOfVariable(State state, String name) {
        CallRun run = state.run();
        for (int v : state.noVariables()) {
            run.unchanged(CallRun.OUT, name, v);
        }
    }

    private static void seen() {
        for (State state : State.values()) {
            sentence("12: IndexOutOfBoundsException.", state);
            dueOut(state.run(), "seen", withoutVariable(state, 5));
            dueOut(state.run(), "seen", withoutVariable(state, -1));
        }
    }

    private static void of() {
        for (State state : State.values()) {
            sentence("14: IndexOutOfBoundsException.", state);
            CallRun run = state.run();
            for (int what = 0; what <= 4; what++) {
                dueOut(run, "of", withoutVariable(state, what));
            }
        }
        for (State state : State.values()) {
            sentence("14: NONE for another what.", state);
            for (int v = 0; v < state.variables; v += 29) {
                dueNone(state.run(), "of", v, 5);
            }
        }
    }

    private static void ofAtom() {
        for (State state : State.values()) {
            sentence("15: IndexOutOfBoundsException.", state);
            CallRun run = state.run();
            for (int a : state.noAtoms()) {
                run.unchanged(CallRun.OUT, "ofAtom", a, 0);
                run.unchanged(CallRun.OUT, "ofAtom", a, 1);
                run.unchanged(CallRun.OUT, "ofAtom", a, 2);
            }
        }
        for (State state : State.values()) {
            sentence("15: NONE for another what.", state);
            for (int a = 0; a < state.atoms; a += 2) {
                dueNone(state.run(), "ofAtom", a, 3);
            }
        }
    }

    /** Whats are from 0 on, the first other one being told. */
    private static void dueNone(CallRun run, String name, int number, int firstOther) {
        for (int what : new int[] {-1, -2, firstOther, firstOther + 1, 32, 64, 256, 65536, MIN, MAX}) {
            run.unchanged(CallRun.NONE, name, number, what);
        }
    }

    private static void way() {
        for (State state : State.values()) {
            sentence("16: IndexOutOfBoundsException: no such variable ..", state);
            CallRun run = state.run();
            for (int v : state.noVariables()) {
                run.unchanged(CallRun.OUT, "way", v, 0, -1);
                run.unchanged(CallRun.OUT, "way", v, 0, 0);
            }
        }
        for (State state : State.values()) {
            sentence("16: IndexOutOfBoundsException: no such .. atom.", state);
            CallRun run = state.run();
            for (int a : state.noAtoms()) {
                run.unchanged(CallRun.OUT, "way", 0, a, -1);
                run.unchanged(CallRun.OUT, "way", 0, a, 0);
            }
        }
    }

    private static void wayPlaces() {
        CallRun.sentence("16: NONE without (beyond the way).");
        // In SMALL the way from 3 to atom 0 is 3, 0, 1, 2.
        CallRun run = State.SMALL.run().due(4, "way", 3, 0, -1).due(2, "way", 3, 0, 3);
        for (int k : new int[] {4, 5, 59, 60, 64, MAX, -2, -3, MIN}) {
            run.unchanged(CallRun.NONE, "way", 3, 0, k);
        }
        CallRun.sentence("16: NONE without (no way).");
        for (int k : new int[] {0, 1, 59, 60, MAX, -2, MIN}) {
            run.unchanged(CallRun.NONE, "way", 3, 2, k);
        }
        CallRun.sentence("16: 0 for k = -1 if there is no way.");
        run.unchanged("0", "way", 3, 2, -1).unchanged("0", "way", 2, 1, -1);
    }

    private static void count() {
        for (State state : State.values()) {
            sentence("17: NONE for another what.", state);
            CallRun run = state.run();
            for (int what : new int[] {-1, -2, 9, 10, 32, 64, 256, 65536, MIN, MAX}) {
                run.unchanged(CallRun.NONE, "count", what);
            }
        }
    }

    /** The document does not say which comes first; this is what the program does. */
    private static void exceptionsComeFirst() {
        CallRun.sentence("an exception is due, and so is NONE or another exception");
        State.FULL.run()
                .unchanged(CallRun.WRONG, "variable", 10).unchanged(CallRun.WRONG, "atom", -1)
                .unchanged(CallRun.OUT, "copy", 60, 10).unchanged(CallRun.OUT, "copy", -1, -1)
                .unchanged(CallRun.OUT, "of", 60, 5).unchanged(CallRun.OUT, "of", -1, -1)
                .unchanged(CallRun.OUT, "ofAtom", 32, 3).unchanged(CallRun.OUT, "ofAtom", -1, -1)
                .unchanged(CallRun.OUT, "way", 60, 0, -2).unchanged(CallRun.OUT, "way", 0, 32, 60);
    }
}
