import java.util.ArrayList;
import java.util.Arrays;
import java.util.List;

/**
 * A run of calls on a new object, each answer compared with the one that is due. The calls are
 * kept, so that the run can be made again on other objects: all calls of "what is seen" are looked
 * at in that way, without one object coming to more than its 512 calls.
 */
final class CallRun {
    static final String NONE = "-1";
    static final String OUT = "throws.IndexOutOfBoundsException";
    static final String WRONG = "throws.IllegalArgumentException";
    static final String STATE = "throws.IllegalStateException";

    private static final int MOST_CALLS = 512;
    private static final int MOST_TOLD_OF_A_SENTENCE = 5;
    private static final List<String> LOOKS =
            List.of("set", "seen", "reach", "of", "ofAtom", "way", "count");

    private static int wrong = 0;
    private static int wrongOfSentence = 0;
    private static String sentence = "";

    /** The calls that may have changed something, in their order. */
    private final List<Call> made = new ArrayList<>();
    private final EffectNets x = new EffectNets();
    private int used = 0;

    private List<Call> looks = null;
    private List<List<String>> before = null;

    private record Call(String name, int... args) {
        @Override
        public String toString() {
            String row = Arrays.toString(args);
            return name + "(" + row.substring(1, row.length() - 1) + ")";
        }
    }

    /** The sentence of the document that the next runs test. */
    static void sentence(String words) {
        sentence = words;
        wrongOfSentence = 0;
    }

    static void end() {
        System.out.println(wrong == 0 ? "all answers are as due" : wrong + " answers are not as due");
        if (wrong != 0) {
            System.exit(1);
        }
    }

    static void tell(String what) {
        wrong++;
        wrongOfSentence++;
        if (wrongOfSentence <= MOST_TOLD_OF_A_SENTENCE) {
            System.out.println(sentence + " -- " + what);
        }
    }

    /** A call that leads to the case; what it answers is tested elsewhere, but it may not throw. */
    CallRun call(String name, int... args) {
        Call call = new Call(name, args);
        String got = answerOf(call);
        if (got.startsWith("throws")) {
            tell(call + " answered " + got);
        }
        return this;
    }

    CallRun times(int n, String name, int... args) {
        for (int i = 0; i < n; i++) {
            call(name, args);
        }
        return this;
    }

    CallRun due(long want, String name, int... args) {
        Call call = new Call(name, args);
        compare(call, answerOf(call), Long.toString(want));
        return this;
    }

    /** A call with the answer that is due, that changes nothing as all of what is seen shows it. */
    CallRun unchanged(String want, String name, int... args) {
        Call call = new Call(name, args);
        compare(call, answerOn(x, call), want);
        count();
        if (before == null) {
            looks = looks();
            before = pictures(null);
        }
        List<List<String>> after = pictures(call);
        for (int p = 0; p < after.size(); p++) {
            comparePictures(call, p, before.get(p), after.get(p));
        }
        return this;
    }

    private String answerOf(Call call) {
        count();
        if (!LOOKS.contains(call.name)) {
            made.add(call);
            before = null;
        }
        return answerOn(x, call);
    }

    private void count() {
        used++;
        if (used > MOST_CALLS) {
            throw new AssertionError(sentence + ": the test makes more than 512 calls");
        }
    }

    private static void compare(Call call, String got, String want) {
        if (!got.equals(want)) {
            tell(call + " answered " + got + ", due is " + want);
        }
    }

    private void comparePictures(Call call, int p, List<String> was, List<String> is) {
        for (int i = 0; i < was.size(); i++) {
            if (!was.get(i).equals(is.get(i))) {
                tell(call + " changed " + looks.get(i) + (p == 0 ? "" : " after " + sequels().get(p))
                        + " from " + was.get(i) + " to " + is.get(i));
                return;
            }
        }
    }

    private List<List<String>> pictures(Call refused) {
        List<List<String>> found = new ArrayList<>();
        for (List<Call> sequel : sequels()) {
            List<Call> first = new ArrayList<>(made);
            if (refused != null) {
                first.add(refused);
            }
            first.addAll(sequel);
            found.add(picture(first));
        }
        return found;
    }

    /** What is seen at once, and what is seen later: a change may be hidden until then. */
    private List<List<Call>> sequels() {
        List<List<Call>> found = new ArrayList<>();
        found.add(List.of());
        found.add(List.of(new Call("shrink"), new Call("variable", 0), new Call("atom", 0)));
        if (made.stream().anyMatch(c -> c.name.equals("mark"))) {
            found.add(List.of(new Call("back")));
            found.add(List.of(new Call("back"), new Call("back")));
        }
        return found;
    }

    private List<String> picture(List<Call> first) {
        List<String> answers = new ArrayList<>();
        int room = MOST_CALLS - first.size();
        for (int from = 0; from < looks.size(); from += room) {
            EffectNets y = new EffectNets();
            for (Call call : first) {
                answerOn(y, call);
            }
            for (Call look : looks.subList(from, Math.min(from + room, looks.size()))) {
                answers.add(answerOn(y, look));
            }
        }
        return answers;
    }

    /** All calls of "what is seen": with all that is there, and one beyond it at either side. */
    private List<Call> looks() {
        EffectNets y = new EffectNets();
        for (Call call : made) {
            answerOn(y, call);
        }
        int variables = y.count(0);
        int atoms = y.count(1);
        List<Call> found = new ArrayList<>();
        for (int what = -1; what <= 9; what++) {
            found.add(new Call("count", what));
        }
        for (int v = -1; v <= variables; v++) {
            addLooksAt(v, found);
            for (int a = -1; a <= atoms; a++) {
                addWays(v, a, variables, found);
            }
        }
        for (int a = -1; a <= atoms; a++) {
            for (int what = -1; what <= 3; what++) {
                found.add(new Call("ofAtom", a, what));
            }
        }
        return found;
    }

    private static void addLooksAt(int v, List<Call> found) {
        found.add(new Call("set", v));
        found.add(new Call("reach", v));
        for (int level = -1; level <= 10; level++) {
            found.add(new Call("seen", v, level));
        }
        for (int what = -1; what <= 5; what++) {
            found.add(new Call("of", v, what));
        }
    }

    private static void addWays(int v, int atom, int variables, List<Call> found) {
        int last = variables <= 9 ? variables : 2;
        for (int k = -1; k <= last; k++) {
            found.add(new Call("way", v, atom, k));
        }
    }

    private static String answerOn(EffectNets x, Call call) {
        try {
            return Long.toString(make(x, call.name, call.args));
        } catch (RuntimeException e) {
            // The class's own name counts: what the machine throws is of a class below it.
            return "throws." + e.getClass().getSimpleName();
        }
    }

    private static long make(EffectNets x, String name, int[] a) {
        return switch (name) {
            case "variable" -> x.variable(a[0]);
            case "atom" -> x.atom(a[0]);
            case "has" -> x.has(a[0], a[1]);
            case "includes" -> x.includes(a[0], a[1]);
            case "one" -> x.one(a[0], a[1]);
            case "shrink" -> x.shrink();
            case "copy" -> x.copy(a[0], a[1]);
            case "mark" -> x.mark();
            case "back" -> x.back();
            case "set" -> x.set(a[0]);
            case "seen" -> x.seen(a[0], a[1]);
            case "reach" -> x.reach(a[0]);
            case "of" -> x.of(a[0], a[1]);
            case "ofAtom" -> x.ofAtom(a[0], a[1]);
            case "way" -> x.way(a[0], a[1], a[2]);
            case "count" -> x.count(a[0]);
            default -> throw new AssertionError(name);
        };
    }
}
