/** The edges that the sentences of the promises 1 to 17 name, one by one; refusals stand apart. */
public final class PromiseEdges {
    private static final int MIN = Integer.MIN_VALUE;
    private static final int MAX = Integer.MAX_VALUE;
    private static final long ALL_NODES = (1L << 60) - 1;

    public static void main(String[] args) {
        newObject();
        eachObjectByItself();
        variableAndAtom();
        hasFromNoneToAll();
        includesFromNoneToAll();
        includesClosingARing();
        oneFromNoneToAll();
        shrinkWithoutRings();
        shrinkOneRingOfAll();
        shrinkByTheLeastNode();
        shrinkTellsNumbers();
        copyAboveALevel();
        copyReachedAboveALevel();
        copyAtomsAboveALevel();
        copyByNumbers();
        copyBornAtLevels();
        copyNothingReached();
        copyTellsTheSameOrTheNew();
        copyOfJoinedVariables();
        copyIntoTheLastRoomForVariables();
        copyIntoTheLastRoomForAtoms();
        markTwenty();
        backAnswersHowManyThereWere();
        setOfNoneAndAll();
        seenNotAboveALevel();
        seenLevelsOutside();
        reachOfAll();
        ofEachWhat();
        ofAtomEachWhat();
        wayPlaces();
        countsOfNothing();
        countsOfTheMost();
        CallRun.end();
    }

    private static CallRun variables(int... births) {
        CallRun run = new CallRun();
        for (int birth : births) {
            run.call("variable", birth);
        }
        return run;
    }

    private static CallRun atoms(CallRun run, int... births) {
        for (int birth : births) {
            run.call("atom", birth);
        }
        return run;
    }

    private static CallRun all() {
        return new CallRun().times(60, "variable", 9).times(32, "atom", 9);
    }

    private static void newObject() {
        CallRun.sentence("1: No variables, atoms, marks.");
        CallRun run = new CallRun();
        for (int what = 0; what <= 8; what++) {
            run.due(0, "count", what);
        }
        run.unchanged("0", "shrink").unchanged(CallRun.STATE, "back");
        run.due(0, "variable", 0).due(0, "atom", 0).due(1, "mark");
        new CallRun().unchanged(CallRun.OUT, "set", 0).unchanged(CallRun.OUT, "ofAtom", 0, 0);
    }

    private static void eachObjectByItself() {
        CallRun.sentence("1: A new object (beside another one)");
        CallRun first = variables(1, 2);
        first.call("atom", 3).call("has", 0, 0).call("mark");
        CallRun second = new CallRun().due(0, "count", 0).due(0, "count", 7).due(0, "variable", 7);
        second.due(0, "atom", 8).due(0, "set", 0).due(7, "of", 0, 3).due(1, "mark");
        first.due(1, "of", 0, 3).due(1, "set", 0).due(2, "count", 0).due(3, "ofAtom", 0, 1);
    }

    private static void variableAndAtom() {
        CallRun.sentence("2: A new variable: its number. 3: A new atom: its number.");
        CallRun run = new CallRun();
        for (int n = 0; n < 32; n++) {
            run.due(n, "variable", 9).due(n, "atom", 0);
        }
        // Numbers go on behind those that a copy made, and are used again behind a mark.
        run.due(32, "copy", 0, 0).due(33, "variable", 1).due(1, "mark").due(34, "variable", 1);
        run.due(1, "back").due(34, "variable", 1).due(35, "count", 0).due(32, "count", 1);
    }

    private static void hasFromNoneToAll() {
        CallRun.sentence("4: how many variables have one more in their sets by that (none, one, all)");
        CallRun run = all().due(1, "has", 0, 0).due(0, "has", 0, 0);
        for (int v = 1; v < 60; v++) {
            run.call("includes", v, v - 1);
        }
        run.due(60, "has", 0, 31).due(60, "ofAtom", 31, 2).due(0, "has", 59, 31).due(3, "count", 4);
        run.due(1, "has", 59, 30).due(29, "has", 30, 30).due(30, "has", 0, 30).due(6, "count", 4);
        run.due(180, "count", 8);
        CallRun node = all().call("one", 0, 59).call("one", 59, 7).due(3, "has", 7, 5);
        node.due(0, "has", 0, 5).due(2, "count", 4);
    }

    private static void includesFromNoneToAll() {
        CallRun.sentence("5: how many atoms come to sets, over all variables (none, all)");
        CallRun run = all();
        for (int v = 2; v < 60; v++) {
            run.due(0, "includes", v, v - 1);
        }
        for (int a = 0; a < 32; a++) {
            run.due(1, "has", 0, a);
        }
        run.due(59 * 32, "includes", 1, 0).due(60 * 32, "count", 8).due(-1, "set", 59);
        run.due(0, "includes", 0, 59).due(0, "includes", 59, 0).due(61, "count", 5);
    }

    private static void includesClosingARing() {
        CallRun.sentence("5: how many atoms come to sets (a ring closes, some are there already)");
        CallRun run = atoms(variables(1, 1, 1, 1), 1, 1, 1, 1);
        for (int v = 0; v < 4; v++) {
            run.call("has", v, v);
        }
        run.due(1, "includes", 0, 1).due(2, "includes", 1, 2).due(3, "includes", 2, 3);
        run.due(6, "includes", 3, 0).due(16, "count", 8).due(0, "includes", 1, 3);
        run.call("variable", 1).call("has", 4, 0).due(3, "includes", 4, 2);
    }

    private static void oneFromNoneToAll() {
        CallRun.sentence("6: how many atoms come to sets, over all variables (none, all)");
        CallRun run = all();
        for (int v = 2; v < 60; v++) {
            run.due(0, "one", v, v % 2);
        }
        for (int a = 0; a < 32; a++) {
            run.due(30, "has", 58 + a % 2, a);
        }
        run.due(60 * 16, "one", 59, 58).due(60 * 32, "count", 8).due(1, "count", 2);
        run.due(59, "count", 6).due(0, "one", 0, 1).due(60, "count", 6);
        // What reaches either of them gets what comes, too.
        CallRun over = atoms(variables(1, 1, 1, 1), 1, 1).call("has", 0, 0).call("has", 1, 1);
        over.call("includes", 2, 0).call("includes", 3, 1).call("has", 3, 0).due(3, "one", 0, 1);
    }

    private static void shrinkWithoutRings() {
        CallRun.sentence("7: how many facts (none)");
        new CallRun().unchanged("0", "shrink");
        variables(5).unchanged("0", "shrink");
        variables(5).call("includes", 0, 0).unchanged("0", "shrink");
        CallRun chain = all();
        for (int v = 1; v < 60; v++) {
            chain.call("includes", v, v - 1);
        }
        chain.unchanged("0", "shrink");
        // Variables of one node that include one another are one node by itself.
        variables(5, 5).call("one", 0, 1).call("includes", 0, 1).call("includes", 1, 0)
                .unchanged("0", "shrink");
    }

    private static void shrinkOneRingOfAll() {
        CallRun.sentence("7: Of each ring, .. its nodes become one (a ring of all)");
        CallRun run = all().call("has", 30, 3);
        for (int v = 0; v < 60; v++) {
            run.call("includes", v, (v + 1) % 60);
        }
        run.due(1, "count", 3).due(60, "count", 2).due(59, "shrink").due(59, "count", 6);
        run.due(1, "count", 2).due(1, "count", 3).due(60, "of", 59, 4).due(1, "reach", 59);
        run.due(60, "count", 5).due(60, "count", 8).due(1, "count", 4).unchanged("0", "shrink");
    }

    private static void shrinkByTheLeastNode() {
        CallRun.sentence("7: each of the others' numbers being told to be ONE with the least one");
        CallRun run = variables(1, 1, 1, 1, 1, 1, 1);
        run.call("includes", 1, 3).call("includes", 3, 5).call("includes", 5, 1);
        run.call("includes", 2, 6).call("includes", 6, 2).call("includes", 0, 1).call("includes", 3, 2);
        run.due(4, "count", 3).due(3, "shrink").due(3, "count", 6);
        run.unchanged("0", "one", 1, 3).unchanged("0", "one", 5, 1).unchanged("0", "one", 6, 2);
        run.due(0, "of", 0, 0).due(4, "of", 4, 0).due(1, "of", 5, 0).due(2, "of", 6, 0);
        run.due(0, "one", 3, 5).due(4, "count", 6).due(4, "count", 2);
    }

    private static void shrinkTellsNumbers() {
        CallRun.sentence("7: the others' numbers (not their other variables)");
        CallRun run = variables(1, 1, 1, 1, 1).call("one", 1, 4).call("one", 2, 3);
        run.call("includes", 4, 3).call("includes", 3, 4).due(1, "shrink").due(3, "count", 6);
        run.unchanged("0", "one", 1, 2).due(0, "one", 4, 3).due(4, "count", 6).due(4, "of", 4, 4);
        run.due(1, "of", 3, 0).due(0, "of", 0, 0);
    }

    private static void copyAboveALevel() {
        CallRun.sentence("8: for levels above a level. Without such a level of the node: its number");
        for (int birth = 0; birth <= 9; birth++) {
            for (int level = 0; level <= 9; level++) {
                CallRun run = variables(0, birth);
                if (birth > level) {
                    run.due(2, "copy", 1, level).due(3, "count", 0).due(birth, "of", 2, 3);
                } else {
                    run.unchanged("1", "copy", 1, level);
                }
            }
        }
        CallRun.sentence("8: its number (not the variable's)");
        variables(2, 9, 9).call("one", 2, 1).call("includes", 0, 2).unchanged("1", "copy", 2, 2);
        all().unchanged("59", "copy", 59, 9).call("one", 58, 59).unchanged("58", "copy", 59, 9);
    }

    private static void copyReachedAboveALevel() {
        CallRun.sentence("8: for each node that it reaches with a level above that .. a new variable");
        for (int birth = 0; birth <= 9; birth++) {
            for (int level = 0; level <= 8; level++) {
                CallRun run = variables(9, birth).call("includes", 0, 1).due(2, "copy", 0, level);
                run.due(birth > level ? 4 : 3, "count", 0).due(2, "count", 5);
                run.due(birth > level ? 0b1100 : 0b0110, "reach", 2);
            }
        }
    }

    private static void copyAtomsAboveALevel() {
        CallRun.sentence("8: for each atom with a level above that .. a new atom");
        for (int birth = 0; birth <= 9; birth++) {
            for (int level = 0; level <= 8; level++) {
                CallRun run = atoms(variables(9), birth).call("has", 0, 0).due(1, "copy", 0, level);
                run.due(birth > level ? 2 : 1, "count", 1).due(birth > level ? 2 : 1, "set", 1);
                run.due(2, "count", 4).due(birth, "ofAtom", birth > level ? 1 : 0, 0);
            }
        }
        CallRun.sentence("8: which a variable of these nodes HAS");
        CallRun run = atoms(variables(9, 1), 9, 9, 9).call("has", 0, 1).call("has", 1, 2);
        // Atom 0 is nobody's; atom 2 comes from 1, which is not copied.
        run.call("includes", 0, 1).due(2, "copy", 0, 1).due(4, "count", 1).due(0b1100, "set", 2);
    }

    private static void copyByNumbers() {
        CallRun.sentence("8: by their numbers, a new variable; by their numbers, a new atom");
        CallRun run = atoms(variables(9, 8, 7, 6), 9, 9, 9);
        run.call("includes", 3, 2).call("includes", 2, 0).call("includes", 3, 1);
        run.call("has", 3, 2).call("has", 0, 1).call("has", 1, 0);
        // New: 4 for 0, 5 for 1, 6 for 2, 7 for 3; atoms 3, 4, 5 for 0, 1, 2.
        run.due(7, "copy", 3, 5).due(0b11110000, "reach", 7).due(0b01010000, "reach", 6);
        run.due(0b00100000, "reach", 5).due(0b00010000, "reach", 4).due(0b111000, "set", 7);
        run.due(0b010000, "set", 4).due(0b001000, "set", 5).due(0b010000, "set", 6);
        run.due(1, "way", 7, 5, -1).due(2, "way", 7, 3, -1).due(3, "way", 7, 4, -1);
    }

    private static void copyBornAtLevels() {
        CallRun.sentence("8: a new variable, born at the node's level; a new atom, born at the atom's level");
        CallRun run = atoms(variables(9, 8, 3), 9, 2).call("includes", 0, 1).call("one", 1, 0);
        run.call("has", 0, 0).call("has", 1, 1).due(3, "copy", 0, 0).due(8, "of", 3, 3);
        run.due(8, "ofAtom", 2, 1).due(2, "ofAtom", 3, 1).call("includes", 2, 1);
        run.due(4, "copy", 1, 2).due(3, "of", 4, 3).due(3, "ofAtom", 4, 1).due(5, "count", 1);
        run.due(0b10010, "set", 4);
        // Of what is copied the levels stay.
        run.due(8, "of", 3, 2).due(3, "of", 0, 2).due(9, "of", 0, 3).due(3, "ofAtom", 0, 0);
    }

    private static void copyNothingReached() {
        CallRun.sentence("8: A copy of what variable v's node reaches (itself alone, and no atom)");
        CallRun run = variables(5, 6).call("includes", 1, 0).due(2, "copy", 0, 4).due(4, "reach", 2);
        run.due(1, "count", 5).due(0, "count", 4).due(0, "count", 6).due(0, "count", 1);
        // What includes it does not come to include the copy.
        run.due(3, "reach", 1).due(5, "of", 2, 2);
    }

    private static void copyTellsTheSameOrTheNew() {
        CallRun.sentence("8: HAS the new atom, or (without one) the same; INCLUDES .. new one, or .. its number");
        CallRun run = atoms(variables(9, 2, 9, 1), 9, 3).call("one", 1, 3);
        run.call("includes", 0, 3).call("includes", 0, 2).call("includes", 2, 0);
        run.call("has", 0, 0).call("has", 0, 1).call("has", 2, 1);
        run.due(4, "copy", 0, 3).due(6, "count", 0).due(3, "count", 1).due(6, "count", 4);
        run.due(6, "count", 5).due(1, "count", 6).due(0b110010, "reach", 4).due(0b110, "set", 5);
        run.unchanged("0", "has", 4, 2).unchanged("0", "has", 4, 1).unchanged("0", "has", 5, 1);
        run.unchanged("0", "includes", 4, 1).unchanged("0", "includes", 4, 5);
        run.unchanged("0", "includes", 5, 4);
        run.due(0, "includes", 4, 3).due(7, "count", 5);
    }

    private static void copyOfJoinedVariables() {
        CallRun.sentence("8: for the atoms that its variables HAVE .. the variables that its variables INCLUDE");
        CallRun run = atoms(variables(9, 9, 9, 9), 9).call("one", 0, 1).call("one", 2, 3);
        run.call("has", 0, 0).call("has", 1, 0).call("includes", 0, 2).call("includes", 1, 3);
        run.call("includes", 1, 0);
        // One fact HAS; of INCLUDES that of the other node, and that of itself.
        run.due(4, "copy", 1, 8).due(6, "count", 0).due(2, "count", 1).due(3, "count", 4);
        run.due(5, "count", 5).due(2, "count", 6).due(0b110000, "reach", 4);
        run.unchanged("0", "includes", 4, 4).unchanged("0", "includes", 4, 5);
    }

    private static void copyIntoTheLastRoomForVariables() {
        CallRun.sentence("8: NONE if there is no room for all (there is just enough for variables)");
        CallRun run = new CallRun().times(57, "variable", 4);
        run.call("includes", 0, 1).call("includes", 1, 2).call("includes", 2, 3);
        run.due(-1, "copy", 0, 3).due(57, "copy", 1, 3).due(60, "count", 0).due(7L << 57, "reach", 57);
        run.due(-1, "copy", 3, 3).due(3, "copy", 3, 4).due(-1, "variable", 1);
        // Just the nodes with levels above need room.
        CallRun one = new CallRun().call("variable", 9).times(58, "variable", 1);
        for (int v = 1; v < 59; v++) {
            one.call("includes", 0, v);
        }
        one.due(59, "copy", 0, 1).due(2 * 58, "count", 5).due(ALL_NODES - 1, "reach", 59);
    }

    private static void copyIntoTheLastRoomForAtoms() {
        CallRun.sentence("8: NONE if there is no room for all (there is just enough for atoms)");
        CallRun run = new CallRun().times(2, "variable", 9).times(16, "atom", 9).call("atom", 0);
        for (int a = 0; a <= 16; a++) {
            run.call("has", 0, a);
        }
        run.due(-1, "copy", 0, 8).due(2, "count", 0).due(17, "count", 1);
        CallRun half = new CallRun().call("variable", 9).times(16, "atom", 9);
        for (int a = 0; a < 16; a++) {
            half.call("has", 0, a);
        }
        half.due(1, "copy", 0, 8).due(32, "count", 1).due(0xffff0000, "set", 1).due(-1, "atom", 9);
        half.due(-1, "copy", 0, 8).due(2, "count", 0);
        // All 32 have levels not above the level: none is made.
        CallRun same = new CallRun().call("variable", 9).times(32, "atom", 8);
        for (int a = 0; a < 32; a++) {
            same.call("has", 0, a);
        }
        same.due(1, "copy", 0, 8).due(-1, "set", 1).due(64, "count", 4).due(32, "count", 1);
        same.due(-1, "copy", 0, 7);
    }

    private static void markTwenty() {
        CallRun.sentence("9: A mark is set: how many there are");
        CallRun run = new CallRun();
        for (int m = 1; m <= 20; m++) {
            run.due(m, "mark").due(m, "count", 7);
        }
        run.due(-1, "mark").due(20, "count", 7).due(20, "back").due(19, "back").due(19, "mark");
        run.due(20, "mark").due(-1, "mark");
    }

    private static void backAnswersHowManyThereWere() {
        CallRun.sentence("10: Goes BACK: how many marks there were.");
        CallRun run = new CallRun().times(20, "mark");
        for (int m = 20; m >= 1; m--) {
            run.due(m, "back").due(m - 1, "count", 7);
        }
        run.unchanged(CallRun.STATE, "back").due(1, "mark").due(1, "back");
        run.unchanged(CallRun.STATE, "back");
    }

    private static void setOfNoneAndAll() {
        CallRun.sentence("11: The set of a variable, atom a being bit a.");
        CallRun run = all();
        for (int a = 0; a < 32; a++) {
            run.due(0, "set", a).due(1, "has", a, a).due(1 << a, "set", a);
        }
        run.due(0, "set", 59);
        for (int a = 0; a < 32; a++) {
            run.call("includes", 59, a);
        }
        run.due(-1, "set", 59).due(32, "of", 32, 0).due(MIN, "set", 31);
    }

    private static void seenNotAboveALevel() {
        CallRun.sentence("12: the atoms that have levels not above a level");
        CallRun run = variables(9);
        for (int a = 0; a <= 9; a++) {
            run.call("atom", a).call("has", 0, a);
        }
        for (int level = 0; level <= 9; level++) {
            run.due((2 << level) - 1, "seen", 0, level);
        }
        // By levels, not by births; and of its own set alone.
        run.call("variable", 4).call("has", 1, 9).due(0b0000001111, "seen", 0, 3);
        run.due(0b1000011111, "seen", 0, 4).due(0b1000000000, "seen", 1, 4).due(0, "seen", 1, 3);
    }

    private static void seenLevelsOutside() {
        CallRun.sentence("12: levels not above a level (a level that nothing has)");
        CallRun run = all().call("has", 59, 31).call("has", 59, 0).call("has", 58, 1);
        run.due(MIN + 1, "seen", 59, 9).due(0, "seen", 59, 8).due(MIN + 1, "seen", 59, 10);
        run.due(MIN + 1, "seen", 59, MAX).due(0, "seen", 59, -1).due(0, "seen", 59, MIN);
        CallRun low = atoms(variables(0), 0).call("has", 0, 0).due(1, "seen", 0, 0);
        low.due(0, "seen", 0, -1).due(0, "seen", 0, MIN).due(1, "seen", 0, MAX);
    }

    private static void reachOfAll() {
        CallRun.sentence("13: What a variable's node reaches, the node with number n being bit n.");
        CallRun run = all();
        for (int v = 0; v < 59; v++) {
            run.call("includes", 59, v);
        }
        run.due(ALL_NODES, "reach", 59).due(1, "reach", 0).due(1L << 31, "reach", 31);
        run.due(1L << 32, "reach", 32).call("one", 58, 31).due(ALL_NODES - (1L << 58), "reach", 59);
        run.due(1L << 31, "reach", 58).call("one", 59, 0).due(ALL_NODES - (3L << 58), "reach", 0);
    }

    private static void ofEachWhat() {
        CallRun.sentence("14: 0 its node's number, 1 .., 2 .., 3 .., 4 ..");
        CallRun run = variables(9, 8, 7, 6, 5);
        run.call("one", 4, 2).call("includes", 2, 1).call("includes", 1, 4).call("includes", 3, 0);
        int[][] due = {{0, 0, 6, 9, 1}, {1, 1, 5, 8, 1}, {2, 1, 5, 7, 2}, {3, 3, 6, 6, 1}, {2, 1, 5, 5, 2}};
        for (int v = 0; v < 5; v++) {
            run.due(-1, "of", v, -1).due(-1, "of", v, 5);
            for (int what = 0; what < 5; what++) {
                run.due(due[v][what], "of", v, what);
            }
        }
    }

    private static void ofAtomEachWhat() {
        CallRun.sentence("15: level (what = 0), birth (1), in how many variables' sets it is (2)");
        CallRun run = atoms(variables(3, 5, 7), 9, 4, 6).call("has", 1, 0).call("has", 2, 1);
        run.call("includes", 0, 1).call("one", 2, 1);
        int[][] due = {{3, 9, 3}, {3, 4, 3}, {6, 6, 0}};
        for (int a = 0; a < 3; a++) {
            run.due(-1, "ofAtom", a, -1).due(-1, "ofAtom", a, 3);
            for (int what = 0; what < 3; what++) {
                run.due(due[a][what], "ofAtom", a, what);
            }
        }
        CallRun most = all().call("has", 0, 31);
        for (int v = 1; v < 60; v++) {
            most.call("includes", v, v - 1);
        }
        most.due(60, "ofAtom", 31, 2).due(0, "ofAtom", 30, 2);
    }

    private static void wayPlaces() {
        CallRun.sentence("16: Variable k, from 0 on; k = -1: how many there are. NONE without");
        CallRun run = atoms(variables(1, 1, 1), 1, 1).call("includes", 0, 1).call("includes", 1, 2);
        for (int v = 0; v < 3; v++) {
            run.due(0, "way", v, 0, -1).due(-1, "way", v, 0, 0).due(-1, "way", v, 0, -2);
        }
        run.call("has", 2, 0);
        for (int v = 0; v < 3; v++) {
            run.due(3 - v, "way", v, 0, -1).due(-1, "way", v, 0, 3 - v).due(-1, "way", v, 0, -2);
            run.due(-1, "way", v, 0, MAX).due(-1, "way", v, 0, MIN).due(0, "way", v, 1, -1);
            for (int k = 0; k < 3 - v; k++) {
                run.due(v + k, "way", v, 0, k);
            }
        }
        // Ways that were looked at before do not stay: another atom, a shorter one, one gone back.
        run.call("mark").call("has", 0, 1).due(1, "way", 0, 1, -1).due(3, "way", 0, 0, -1);
        run.call("has", 1, 0).due(2, "way", 0, 0, -1).due(-1, "way", 0, 0, 2).call("back");
        run.due(3, "way", 0, 0, -1).due(2, "way", 0, 0, 2).due(0, "way", 0, 1, -1);
    }

    private static void countsOfNothing() {
        CallRun.sentence("17: 0 variables, 1 atoms, .. (none, and one of each)");
        CallRun run = new CallRun();
        int[] none = {0, 0, 0, 0, 0, 0, 0, 0, 0};
        int[][] due = {none, {1, 0, 1, 1, 0, 0, 0, 0, 0}, {1, 1, 1, 1, 0, 0, 0, 0, 0},
            {1, 1, 1, 1, 1, 0, 0, 0, 1}, {1, 1, 1, 1, 1, 1, 0, 0, 1}, {2, 1, 2, 2, 1, 1, 0, 0, 1},
            {2, 1, 1, 1, 1, 1, 1, 0, 2}, {2, 1, 1, 1, 1, 1, 1, 1, 2}};
        String[] calls = {"variable", "atom", "has", "includes", "variable", "one", "mark"};
        int[][] args = {{0}, {0}, {0, 0}, {0, 0}, {0}, {0, 1}, {}};
        for (int step = 0; step < due.length; step++) {
            for (int what = 0; what < 9; what++) {
                run.due(due[step][what], "count", what);
            }
            if (step < calls.length) {
                run.call(calls[step], args[step]);
            }
        }
    }

    private static void countsOfTheMost() {
        CallRun.sentence("17: facts HAS, atoms in sets (the most that there can be)");
        CallRun run = new CallRun().call("variable", 9).times(32, "atom", 0);
        for (int a = 0; a < 32; a++) {
            run.call("has", 0, a);
        }
        for (int v = 1; v < 60; v++) {
            run.due(v, "copy", 0, 0);
        }
        run.due(60 * 32, "count", 4).due(60 * 32, "count", 8).due(60, "count", 2).due(60, "count", 3);
        run.due(-1, "copy", 0, 0).due(60, "ofAtom", 31, 2);

        CallRun.sentence("17: facts INCLUDES, facts ONE (many)");
        // Variables 40 .. 59 include one another and themselves.
        CallRun many = new CallRun().times(60, "variable", 9);
        for (int n = 0; n < 400; n++) {
            many.call("includes", 40 + n / 20, 40 + n % 20);
        }
        many.due(400, "count", 5).due(41, "count", 3).due(19, "shrink").due(19, "count", 6);
        CallRun ones = new CallRun().times(60, "variable", 9);
        for (int v = 30; v < 59; v++) {
            for (int w = 30; w < v; w++) {
                ones.call("one", v, w);
            }
        }
        ones.due(29 * 28 / 2, "count", 6).due(32, "count", 2);
    }
}
