/** The edges that the sentences of the document's "Terms" name, one by one. */
public final class TermEdges {
    private static final int MIN = Integer.MIN_VALUE;

    public static void main(String[] args) {
        atMost60Variables();
        lastVariableInEachCall();
        atMost32Atoms();
        lastAtomInEachCall();
        births();
        includesItself();
        hasToldAlready();
        includesToldAlready();
        oneToldAlready();
        toldByShrinkAndCopy();
        toldSinceAMark();
        oneIsTheSameEitherWay();
        oneOfItselfIsNone();
        nodesOverOthers();
        nodesAreTheLargestSets();
        nodeOfOneVariable();
        numberIsTheLeast();
        leastSets();
        nodeReachesItself();
        reachesNodes();
        ringOfOneNode();
        ringsOfSeveralNodes();
        nodeLevels();
        nodeLevelsOfWhatReachesIt();
        atomLevels();
        wayOfOneVariable();
        wayByFactsToldOfTheseTwo();
        wayWithTheFewest();
        wayWithTheLeastAtTheFirstPlace();
        backTakesAllSinceTheMark();
        backTakesFactsOfAllPairs();
        backTakesTheLatestMark();
        backAtOnce();
        madeAnewAfterBack();
        none();
        CallRun.end();
    }

    private static CallRun variables(int... births) {
        CallRun run = new CallRun();
        for (int birth : births) {
            run.call("variable", birth);
        }
        return run;
    }

    private static void atMost60Variables() {
        CallRun.sentence("VARIABLES 0, 1, .. (at most 60) are made one by one");
        CallRun run = new CallRun();
        for (int v = 0; v < 60; v++) {
            run.due(v, "count", 0).due(v, "variable", v % 10).due(v + 1, "count", 0);
        }
        run.due(-1, "variable", 0).due(60, "count", 0).due(0, "count", 1);
        // Atoms do not take the room of variables, nor these theirs.
        run.due(0, "atom", 0);
    }

    private static void lastVariableInEachCall() {
        CallRun.sentence("VARIABLES .. (at most 60): each call takes the last one");
        CallRun run = new CallRun().times(59, "variable", 9).call("variable", 8).call("atom", 9);
        run.due(1, "has", 59, 0).due(1, "set", 59).due(1, "seen", 59, 8).due(0, "seen", 59, 7);
        run.due(1L << 59, "reach", 59).due(59, "of", 59, 0).due(59, "of", 59, 1).due(8, "of", 59, 2);
        run.due(8, "of", 59, 3).due(1, "of", 59, 4).due(1, "way", 59, 0, -1).due(59, "way", 59, 0, 0);
        run.due(1, "includes", 58, 59).due(3L << 58, "reach", 58).due(59, "way", 58, 0, 1);
        run.due(0, "includes", 59, 58).due(58, "of", 59, 1).due(59, "count", 3);
        run.due(1, "one", 57, 59).due(57, "of", 59, 0).due(57, "of", 58, 1).due(2, "of", 59, 4);
        run.due(3L << 57, "reach", 59).due(1, "shrink").due(57, "of", 58, 0).due(3, "of", 59, 4);
        run.due(57, "copy", 59, 8).due(-1, "copy", 59, 7).due(3, "ofAtom", 0, 2).due(58, "count", 2);
    }

    private static void atMost32Atoms() {
        CallRun.sentence("ATOMS 0, 1, .. (at most 32) are made one by one");
        CallRun run = new CallRun();
        for (int a = 0; a < 32; a++) {
            run.due(a, "count", 1).due(a, "atom", a % 10).due(a + 1, "count", 1);
        }
        run.due(-1, "atom", 0).due(32, "count", 1).due(0, "count", 0);
        run.due(0, "variable", 0);
    }

    private static void lastAtomInEachCall() {
        CallRun.sentence("ATOMS .. (at most 32): each call takes the last one");
        CallRun run = variables(9, 7).times(31, "atom", 9).call("atom", 8);
        run.due(1, "has", 0, 31).due(MIN, "set", 0).due(1, "count", 4).due(1, "count", 8);
        run.due(MIN, "seen", 0, 8).due(0, "seen", 0, 7).due(8, "ofAtom", 31, 0).due(8, "ofAtom", 31, 1);
        run.due(1, "ofAtom", 31, 2).due(1, "way", 0, 31, -1).due(0, "way", 0, 31, 0);
        run.due(1, "includes", 1, 0).due(MIN, "set", 1).due(7, "ofAtom", 31, 0).due(0, "way", 1, 31, 1);
        run.due(2, "ofAtom", 31, 2).due(0, "ofAtom", 30, 2).due(0, "way", 0, 30, -1);
        run.due(-1, "copy", 0, 6).due(0, "copy", 0, 7).due(0, "has", 1, 31).due(0, "one", 0, 1);

        CallRun copied = variables(9).times(31, "atom", 9).call("has", 0, 30).due(1, "copy", 0, 8);
        copied.due(MIN, "set", 1).due(1 << 30, "set", 0).due(9, "ofAtom", 31, 1);
    }

    private static void births() {
        CallRun.sentence("each with a BIRTH level 0 .. 9");
        CallRun run = new CallRun();
        for (int birth = 0; birth <= 9; birth++) {
            run.due(birth, "variable", birth).due(birth, "atom", birth);
        }
        for (int birth = 0; birth <= 9; birth++) {
            run.due(birth, "of", birth, 3).due(birth, "ofAtom", birth, 1);
            run.due(birth, "of", birth, 2).due(birth, "ofAtom", birth, 0);
        }
    }

    private static void includesItself() {
        CallRun.sentence("a variable INCLUDES another one (or itself)");
        CallRun run = variables(5, 5).call("atom", 5).call("has", 0, 0);
        run.due(0, "includes", 0, 0).due(1, "count", 5).due(0, "includes", 1, 1).due(2, "count", 5);
        run.unchanged("0", "includes", 0, 0).due(1, "reach", 0).due(2, "reach", 1).due(2, "count", 3);
        run.due(1, "set", 0).due(0, "set", 1).due(1, "of", 0, 4).due(1, "way", 0, 0, -1);
        run.due(0, "count", 6).unchanged("0", "shrink");
        run.due(2, "copy", 0, 4).due(3, "count", 5).due(4, "reach", 2).unchanged("0", "includes", 2, 2);
    }

    private static void hasToldAlready() {
        CallRun.sentence("A fact that was told already is none more (HAS)");
        CallRun run = variables(5, 5).call("atom", 5).call("atom", 5).call("includes", 1, 0);
        run.due(2, "has", 0, 1).due(1, "count", 4).unchanged("0", "has", 0, 1).due(1, "count", 4);
        // Of 1 it was not told, though it is in its set.
        run.due(0, "has", 1, 1).due(2, "count", 4).unchanged("0", "has", 1, 1).due(2, "count", 8);
    }

    private static void includesToldAlready() {
        CallRun.sentence("A fact that was told already is none more (INCLUDES)");
        CallRun run = variables(5, 5, 5).call("atom", 5).call("has", 0, 0).call("includes", 2, 1);
        run.due(2, "includes", 1, 0).due(2, "count", 5).unchanged("0", "includes", 1, 0);
        // That 2 reaches 0, and that 0 includes 1, was not told.
        run.due(0, "includes", 2, 0).due(3, "count", 5).due(0, "includes", 0, 1).due(4, "count", 5);
        run.unchanged("0", "includes", 2, 0).unchanged("0", "includes", 0, 1);
    }

    private static void oneToldAlready() {
        CallRun.sentence("A fact that was told already is none more (ONE)");
        CallRun run = variables(5, 5, 5).call("atom", 5).call("has", 2, 0);
        run.due(0, "one", 0, 1).due(2, "one", 1, 2).due(2, "count", 6).unchanged("0", "one", 1, 2);
        // That 0 and 2 are ONE follows, but was not told.
        run.due(0, "one", 0, 2).due(3, "count", 6).unchanged("0", "one", 0, 2);
        // The kinds of facts are apart.
        run.due(0, "includes", 0, 1).due(1, "count", 5).due(3, "count", 6);
    }

    private static void toldByShrinkAndCopy() {
        CallRun.sentence("A fact that was told already (by shrink, by copy)");
        CallRun run = variables(5, 5, 5).call("atom", 5).call("has", 1, 0);
        run.call("includes", 0, 1).call("includes", 1, 2).call("includes", 2, 0);
        run.due(2, "shrink").due(2, "count", 6);
        run.unchanged("0", "one", 0, 1).unchanged("0", "one", 2, 0).due(0, "one", 1, 2);
        run.due(3, "count", 6).due(3, "copy", 2, 4).due(2, "count", 4).due(4, "count", 5);
        run.unchanged("0", "has", 3, 1).unchanged("0", "includes", 3, 3);
    }

    private static void toldSinceAMark() {
        CallRun.sentence("A fact that was told already (and was taken back) is one more");
        CallRun run = variables(5, 5).call("atom", 5).call("has", 1, 0).call("mark");
        run.call("has", 0, 0).call("includes", 0, 1).call("one", 0, 1).call("back");
        run.due(1, "count", 4).due(0, "count", 5).due(0, "count", 6).unchanged("0", "has", 1, 0);
        run.due(1, "includes", 0, 1).due(1, "count", 5).due(0, "one", 1, 0).due(1, "count", 6);
        run.due(0, "has", 0, 0).due(2, "count", 4);
    }

    private static void oneIsTheSameEitherWay() {
        CallRun.sentence("that v and w are ONE and that w and v are, is the same fact");
        CallRun run = variables(5, 5, 5).call("one", 0, 2).due(1, "count", 6);
        run.unchanged("0", "one", 2, 0).call("one", 2, 1).due(2, "count", 6);
        run.unchanged("0", "one", 1, 2).unchanged("0", "one", 2, 1);
        CallRun last = new CallRun().times(60, "variable", 0).call("one", 59, 0).due(1, "count", 6);
        last.unchanged("0", "one", 0, 59).call("one", 58, 59).due(2, "count", 6);
        last.unchanged("0", "one", 59, 58);
    }

    private static void oneOfItselfIsNone() {
        CallRun.sentence("that v and v are ONE is none");
        CallRun run = variables(5, 5, 5).call("atom", 5).call("has", 0, 0);
        run.unchanged("0", "one", 0, 0).unchanged("0", "one", 2, 2).due(0, "count", 6);
        run.call("one", 1, 2).call("includes", 1, 0);
        run.unchanged("0", "one", 1, 1).unchanged("0", "one", 2, 2).due(1, "count", 6);
        new CallRun().times(60, "variable", 0).unchanged("0", "one", 59, 59).due(0, "count", 6);
    }

    private static void nodesOverOthers() {
        CallRun.sentence("NODES are .. ONE with one another by such facts, over others, too");
        CallRun run = new CallRun().times(60, "variable", 5).call("atom", 5).call("has", 30, 0);
        for (int v = 58; v >= 0; v--) {
            run.call("one", v + 1, v);
        }
        run.due(59, "count", 6).due(1, "count", 2).due(60, "count", 8);
        for (int v = 0; v < 60; v++) {
            run.due(0, "of", v, 0).due(60, "of", v, 4).due(1, "reach", v);
        }
        CallRun pairs = variables(1, 1, 1, 1, 1, 1).call("one", 4, 5).call("one", 2, 3);
        pairs.due(4, "of", 5, 0).due(2, "of", 3, 0).call("one", 5, 3).due(2, "of", 4, 0);
        pairs.due(2, "of", 5, 0).due(4, "of", 2, 4).due(3, "count", 2);
    }

    private static void nodesAreTheLargestSets() {
        CallRun.sentence("NODES are the largest sets (and no larger)");
        CallRun run = variables(1, 1, 1, 1, 1).call("one", 0, 2).call("one", 1, 3);
        run.due(3, "count", 2).due(0, "of", 2, 0).due(1, "of", 3, 0).due(4, "of", 4, 0);
        run.due(2, "of", 0, 4).due(2, "of", 1, 4).due(1, "of", 4, 4);
        // That they include one another makes no node.
        run.call("includes", 0, 4).call("includes", 4, 0).due(3, "count", 2).due(4, "of", 4, 0);
    }

    private static void nodeOfOneVariable() {
        CallRun.sentence("NODES (of one variable)");
        CallRun run = new CallRun().times(60, "variable", 5).due(60, "count", 2);
        for (int v = 0; v < 60; v++) {
            run.due(v, "of", v, 0).due(1, "of", v, 4);
        }
    }

    private static void numberIsTheLeast() {
        CallRun.sentence("A node's NUMBER is its least variable.");
        CallRun run = variables(1, 1, 1, 1, 1, 1).call("one", 3, 5).due(3, "of", 5, 0);
        run.call("one", 4, 5).due(3, "of", 4, 0).due(3, "of", 3, 0).call("one", 4, 1);
        run.due(1, "of", 3, 0).due(1, "of", 4, 0).due(1, "of", 5, 0).due(1, "of", 1, 0);
        run.due(2, "reach", 5).due(1, "copy", 5, 1).due(1, "of", 5, 1);
    }

    private static void leastSets() {
        CallRun.sentence("THE SET of a variable: the least sets");
        CallRun run = variables(1, 1, 1, 1).call("atom", 1).call("atom", 1);
        run.due(0, "set", 0).due(0, "count", 8);
        run.call("includes", 0, 1).call("includes", 1, 0).call("one", 1, 2);
        run.due(0, "set", 0).due(0, "set", 2).due(0, "ofAtom", 0, 2);
        // What it includes does not come to have what it has.
        run.call("includes", 3, 0).due(1, "has", 3, 1).due(0, "set", 0).due(2, "set", 3);
        run.due(4, "has", 2, 0).due(1, "set", 1).due(3, "set", 3).due(5, "count", 8);
    }

    private static void nodeReachesItself() {
        CallRun.sentence("A node REACHES itself");
        CallRun run = new CallRun().times(60, "variable", 5);
        for (int v = 0; v < 60; v++) {
            run.due(1L << v, "reach", v);
        }
        run.call("one", 40, 50).due(1L << 40, "reach", 50).call("includes", 50, 50);
        run.due(1L << 40, "reach", 40).call("includes", 50, 33).due(1L << 33, "reach", 33);
        run.due(1L << 40 | 1L << 33, "reach", 50);
    }

    private static void reachesNodes() {
        CallRun.sentence("A node REACHES .. the nodes .. that a variable of it INCLUDES, and so on");
        CallRun run = new CallRun().times(60, "variable", 5);
        for (int v = 0; v < 59; v++) {
            run.call("includes", v, v + 1);
        }
        run.due((1L << 60) - 1, "reach", 0).due(3L << 58, "reach", 58).due(1L << 59, "reach", 59);
        run.due(60, "count", 3).call("includes", 59, 0).due((1L << 60) - 1, "reach", 59);
        run.due(1, "count", 3);
        // Over a variable of a node that is not the one included.
        CallRun over = variables(1, 1, 1, 1).call("includes", 0, 2).call("one", 2, 1);
        over.call("includes", 1, 3).due(0b1011, "reach", 0).due(0b1010, "reach", 2);
    }

    private static void ringOfOneNode() {
        CallRun.sentence("a RING, together (a node by itself, too)");
        CallRun run = variables(1, 1, 1, 1).due(4, "count", 3);
        run.call("includes", 0, 1).call("includes", 1, 2).due(4, "count", 3);
        for (int v = 0; v < 4; v++) {
            run.due(v, "of", v, 1);
        }
        run.call("includes", 2, 2).due(4, "count", 3).due(2, "of", 2, 1);
        run.call("one", 3, 2).due(3, "count", 3).due(2, "of", 3, 1).unchanged("0", "shrink");
    }

    private static void ringsOfSeveralNodes() {
        CallRun.sentence("Nodes that reach one another are a RING");
        CallRun run = variables(1, 1, 1, 1, 1).call("includes", 4, 2).due(5, "count", 3);
        run.call("includes", 2, 4).due(4, "count", 3).due(2, "of", 4, 1).due(4, "of", 4, 0);
        run.call("includes", 3, 4).due(3, "of", 3, 1).call("includes", 2, 1).due(1, "of", 1, 1);
        run.call("includes", 1, 3).due(2, "count", 3).due(1, "of", 4, 1).due(1, "of", 3, 1);
        run.call("one", 0, 4).due(0, "of", 2, 1).due(0, "of", 1, 1).due(1, "count", 3);
    }

    private static void nodeLevels() {
        CallRun.sentence("LEVELS: that of a node is the least BIRTH of the variables (its own)");
        CallRun run = variables(9, 0, 7, 6).due(9, "of", 0, 2).due(0, "of", 1, 2);
        run.call("one", 2, 3).due(6, "of", 2, 2).due(6, "of", 3, 2).due(7, "of", 2, 3);
        run.call("one", 0, 2).due(6, "of", 0, 2).call("one", 3, 1).due(0, "of", 0, 2);
    }

    private static void nodeLevelsOfWhatReachesIt() {
        CallRun.sentence("LEVELS: .. of the variables of all nodes that reach it");
        CallRun run = variables(9, 4, 2, 3).call("includes", 0, 2).due(9, "of", 0, 2);
        run.due(2, "of", 2, 2).call("includes", 1, 0).due(4, "of", 0, 2).due(4, "of", 1, 2);
        run.call("one", 3, 1).due(3, "of", 0, 2).due(3, "of", 1, 2);
        // In a ring all have the least.
        run.call("includes", 2, 1).due(2, "of", 0, 2).due(2, "of", 3, 2).due(9, "of", 0, 3);
        run.call("variable", 0).call("includes", 2, 4).due(2, "of", 2, 2).due(0, "of", 4, 2);
    }

    private static void atomLevels() {
        CallRun.sentence("LEVELS: that of an atom the least of its BIRTH and the levels of the nodes");
        CallRun run = variables(5, 6, 4).call("atom", 9).call("atom", 0).call("atom", 5);
        run.due(9, "ofAtom", 0, 0).due(0, "ofAtom", 1, 0).call("has", 1, 0).due(6, "ofAtom", 0, 0);
        run.call("has", 0, 0).due(5, "ofAtom", 0, 0).call("has", 0, 1).due(0, "ofAtom", 1, 0);
        run.call("has", 1, 2).due(5, "ofAtom", 2, 0).call("includes", 2, 1).due(4, "ofAtom", 2, 0);
        run.due(4, "ofAtom", 0, 0).due(5, "ofAtom", 2, 1);
        // What a variable that has it includes, or an atom beside it, has no part in it.
        CallRun down = variables(7, 1).call("atom", 8).call("atom", 2).call("has", 0, 0);
        down.call("includes", 0, 1).call("has", 0, 1).due(7, "ofAtom", 0, 0).due(2, "ofAtom", 1, 0);
    }

    private static void wayOfOneVariable() {
        CallRun.sentence("A WAY .. from that one on to one that HAS the atom (that one itself)");
        CallRun run = variables(1, 1, 1).call("atom", 1).call("has", 1, 0).call("includes", 1, 0);
        run.call("has", 0, 0).call("one", 1, 2).call("has", 2, 0);
        for (int v = 0; v < 3; v++) {
            run.due(1, "way", v, 0, -1).due(v, "way", v, 0, 0).due(-1, "way", v, 0, 1);
        }
    }

    private static void wayByFactsToldOfTheseTwo() {
        CallRun.sentence("A WAY .. (told of it) .. (told of these two)");
        CallRun run = variables(1, 1, 1, 1).call("atom", 1).call("has", 3, 0);
        run.call("one", 3, 2).call("one", 1, 2);
        // 1 and 3 are of one node over 2.
        run.due(3, "way", 1, 0, -1).due(2, "way", 1, 0, 1).due(3, "way", 1, 0, 2);
        // 0 includes 1, not its node.
        run.call("includes", 0, 1).due(4, "way", 0, 0, -1).due(1, "way", 0, 0, 1);
        run.call("has", 2, 0).due(3, "way", 0, 0, -1).call("one", 3, 1).due(2, "way", 1, 0, 1);
        // It does not go from what is included to what includes it.
        run.call("atom", 1).call("has", 0, 1).due(0, "way", 1, 1, -1);
    }

    private static void wayWithTheFewest() {
        CallRun.sentence("THE way is one with the fewest variables");
        CallRun run = variables(1, 1, 1, 1, 1).call("atom", 1).call("has", 4, 0);
        run.call("includes", 0, 1).call("includes", 1, 2).call("includes", 2, 3).call("includes", 3, 4);
        run.due(5, "way", 0, 0, -1).due(4, "way", 0, 0, 4).due(-1, "way", 0, 0, 5);
        run.call("includes", 1, 1).call("includes", 2, 1).due(5, "way", 0, 0, -1);
        run.call("includes", 1, 3).due(4, "way", 0, 0, -1).due(3, "way", 0, 0, 2);
        run.call("one", 4, 0).due(2, "way", 0, 0, -1).due(4, "way", 0, 0, 1);

        CallRun longest = new CallRun().times(60, "variable", 1).call("atom", 1).call("has", 59, 0);
        for (int v = 0; v < 59; v++) {
            longest.call(v % 2 == 0 ? "includes" : "one", v, v + 1);
        }
        longest.due(60, "way", 0, 0, -1).due(-1, "way", 0, 0, 60);
        for (int k = 0; k < 60; k++) {
            longest.due(k, "way", 0, 0, k);
        }
    }

    private static void wayWithTheLeastAtTheFirstPlace() {
        CallRun.sentence("THE way is .. the one with the least variable at the first place");
        // 0 over 2, 3 or over 1, 4 or over 1, 5 to 6: the end of the first is less, its start not.
        CallRun run = variables(1, 1, 1, 1, 1, 1, 1, 1).call("atom", 1).call("has", 6, 0);
        run.call("includes", 0, 2).call("includes", 2, 3).call("includes", 3, 6);
        run.call("includes", 0, 1).call("includes", 1, 5).call("includes", 5, 6);
        run.due(1, "way", 0, 0, 1).due(5, "way", 0, 0, 2).due(6, "way", 0, 0, 3);
        run.call("one", 4, 1).call("one", 6, 4).due(4, "way", 0, 0, 2).due(4, "way", 0, 0, -1);
        // The last place, too.
        run.call("includes", 4, 7).call("has", 7, 0).due(6, "way", 0, 0, 3);
        // 0 itself is no next place that helps, though it is the least.
        run.call("includes", 0, 0).call("one", 1, 0).due(1, "way", 0, 0, 1).due(4, "way", 0, 0, -1);
    }

    private static void backTakesAllSinceTheMark() {
        CallRun.sentence("going BACK takes back all that was made and told since the latest mark");
        String[] changes = {"variable", "atom", "has", "includes", "one", "shrink", "copy"};
        int[][] args = {{0}, {0}, {2, 0}, {2, 0}, {2, 1}, {}, {0, 2}};
        for (int c = 0; c < changes.length; c++) {
            CallRun run = variables(3, 4, 5).call("atom", 6).call("atom", 7).call("has", 1, 1);
            run.call("includes", 0, 1).call("includes", 1, 0).call("mark").call(changes[c], args[c]);
            run.due(1, "back").due(3, "count", 0).due(2, "count", 1).due(3, "count", 2);
            run.due(2, "count", 3).due(1, "count", 4).due(2, "count", 5).due(0, "count", 6);
            run.due(0, "count", 7).due(2, "count", 8).due(0, "set", 2).due(2, "set", 0);
            run.due(4, "reach", 2).due(3, "reach", 1).due(1, "of", 1, 0).due(2, "of", 2, 0);
            run.due(5, "of", 2, 2).due(6, "ofAtom", 0, 0).due(3, "ofAtom", 1, 0);
            run.due(0, "way", 2, 1, -1).due(0, "ofAtom", 0, 2).due(3, "variable", 9);
            run.due(2, "atom", 9).due(9, "of", 3, 2).due(9, "ofAtom", 2, 0).due(1, "has", 2, 0);
        }
    }

    /** Whatever row a fact is kept in, nothing of it stays. */
    private static void backTakesFactsOfAllPairs() {
        CallRun.sentence("going BACK takes back all that was .. told (of each two variables)");
        for (String tell : new String[] {"has", "includes", "one"}) {
            CallRun run = variables(3, 4, 5).times(3, "atom", 6).call("mark");
            for (int v = 0; v < 3; v++) {
                for (int w = 0; w < 3; w++) {
                    run.call(tell, v, w);
                }
            }
            run.due(1, "back").due(0, "count", 4).due(0, "count", 5).due(0, "count", 6);
            run.due(3, "count", 2).due(3, "count", 3).due(0, "count", 8);
            for (int v = 0; v < 3; v++) {
                run.due(1L << v, "reach", v).due(v, "of", v, 0).due(3 + v, "of", v, 2).due(0, "set", v);
                run.due(6, "ofAtom", v, 0).due(0, "way", v, 0, -1).due(v, "copy", v, 5);
            }
        }
    }

    private static void backTakesTheLatestMark() {
        CallRun.sentence("BACK takes back all .. since the latest mark, and that mark");
        CallRun run = new CallRun();
        for (int m = 1; m <= 20; m++) {
            run.due(m - 1, "variable", m % 10).due(m, "mark").call("includes", 0, m - 1);
        }
        run.due(20, "count", 5);
        for (int m = 20; m >= 1; m--) {
            run.due(m, "back").due(m - 1, "count", 7).due(m, "count", 0).due(m - 1, "count", 5);
        }
        // What was made before the first mark stays.
        run.due(1, "count", 0).due(1, "of", 0, 3);
        // Facts since a mark stay when a later one is gone back to.
        CallRun two = variables(1, 1).call("mark").call("includes", 0, 1).call("mark");
        two.call("includes", 1, 0).due(2, "back").due(1, "count", 5).due(3, "reach", 0);
        two.due(2, "reach", 1).due(1, "back").due(0, "count", 5).due(1, "reach", 0);
    }

    private static void backAtOnce() {
        CallRun.sentence("A MARK is set; going BACK (with nothing since, with nothing at all)");
        new CallRun().due(1, "mark").due(2, "mark").due(2, "back").due(1, "back").due(0, "count", 7)
                .due(0, "count", 0).due(0, "variable", 4);
        CallRun empty = new CallRun().call("mark").call("variable", 3).call("atom", 3);
        empty.call("has", 0, 0).due(1, "back").due(0, "count", 0).due(0, "count", 1);
        empty.due(0, "count", 4).due(0, "count", 8);
        CallRun full = new CallRun().times(60, "variable", 1).times(32, "atom", 1).call("has", 59, 31);
        full.due(1, "mark").due(1, "back").due(60, "count", 0).due(32, "count", 1);
        full.due(MIN, "set", 59).due(1, "mark").call("shrink").call("one", 0, 59).due(1, "back");
        full.due(0, "set", 0).due(-1, "variable", 1);
    }

    private static void madeAnewAfterBack() {
        CallRun.sentence("BACK takes back (a number made anew has nothing of before)");
        CallRun run = variables(5).call("atom", 5).call("mark").call("variable", 1).call("atom", 1);
        run.call("has", 1, 1).call("has", 1, 0).call("includes", 1, 0).call("includes", 0, 1);
        run.call("variable", 2).call("one", 1, 0).call("one", 1, 2).call("includes", 1, 1).call("back");
        run.due(1, "variable", 8).due(1, "atom", 7).due(8, "of", 1, 2).due(8, "of", 1, 3);
        run.due(1, "of", 1, 0).due(1, "of", 1, 1).due(1, "of", 1, 4).due(2, "reach", 1);
        run.due(0, "set", 1).due(7, "ofAtom", 1, 0).due(7, "ofAtom", 1, 1).due(0, "ofAtom", 1, 2);
        run.due(0, "count", 4).due(0, "count", 5).due(0, "count", 6).due(0, "count", 8);
        run.due(1, "has", 1, 1).due(1, "includes", 0, 1).due(1, "count", 4).due(1, "count", 5);
        run.due(0, "includes", 1, 1).due(2, "count", 5).due(0, "one", 0, 1).due(1, "count", 6);
    }

    private static void none() {
        CallRun.sentence("NONE = -1");
        if (EffectNets.NONE != -1) {
            CallRun.tell("NONE is " + EffectNets.NONE);
        }
    }
}
