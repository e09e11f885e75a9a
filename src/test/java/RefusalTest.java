/** Each refusal, BAD, STATE and FULL: its answer, that nothing has changed behind it, and which comes first. */
public final class RefusalTest {
    private static final Check check = new Check("RefusalTest");
    private static final int BAD = Check.BAD, STATE = Check.STATE, FULL = Check.FULL;
    private static final int[] FAR = {Integer.MIN_VALUE, Integer.MAX_VALUE, -1};

    public static void main(String[] args) {
        badWhereAllIsFull();
        badAlone();
        state();
        full();
        faults();
        whichComesFirst();
        refusedIsNotUndone();
        check.end();
    }

    /** Four blocks, six deeds known and one lost, two images, a text that can be told; all told by some 25 calls. */
    private static RestingBlocks rich() {
        RestingBlocks x = new RestingBlocks();
        x.drops(0, 1, 2);
        x.keep(0);
        x.drops(5, 1, 3);
        x.drops(1, 3, 6);
        x.keep(1);
        x.loads(2, 6, 4);
        x.weighs(0, 5);
        x.drops(3, 2, 1);
        x.loads(3, 4, 2);
        return Check.typed(x, "b 7 1 1;");
    }

    private static RestingBlocks two() {
        return Check.typed(check.told("b 3 1 1; b 4 2 1; l 1 4 3;"), "b 1");
    }

    private static RestingBlocks filled() {
        return Check.typed(check.told("b 3 1 1;"), "b 1 1 1;" + " ".repeat(112));
    }

    private interface Made {
        RestingBlocks one();
    }

    /** The call is refused so, twice; then all is as on an object that never had it. */
    private static void refused(Made made, String call, Check.Deed deed, int want) {
        RestingBlocks x = made.one();
        check.due(call, deed.on(x), want);
        check.due(call + " again", deed.on(x), want);
        check.due("all behind " + call, Check.drained(x), Check.drained(made.one()));
    }

    /** None of these may be in a full object, whichever of its numbers is wrong; BAD comes ahead of FULL, too. */
    private static void badWhereAllIsFull() {
        check.sentence("Refused, and nothing changes: BAD");
        Made rich = RefusalTest::rich;
        for (int n : FAR) {
            refused(rich, "type(" + n + ")", x -> x.type(n), BAD);
            refused(rich, "drops(" + n + ", 1, 1)", x -> x.drops(n, 1, 1), BAD);
            refused(rich, "drops(1, " + n + ", 1)", x -> x.drops(1, n, 1), BAD);
            refused(rich, "drops(1, 1, " + n + ")", x -> x.drops(1, 1, n), BAD);
            refused(rich, "lifts(" + n + ")", x -> x.lifts(n), BAD);
            refused(rich, "weighs(" + n + ", 1)", x -> x.weighs(n, 1), BAD);
            refused(rich, "weighs(1, " + n + ")", x -> x.weighs(1, n), BAD);
            refused(rich, "loads(" + n + ", 1, 1)", x -> x.loads(n, 1, 1), BAD);
            refused(rich, "loads(1, " + n + ", 1)", x -> x.loads(1, n, 1), BAD);
            refused(rich, "loads(1, 1, " + n + ")", x -> x.loads(1, 1, n), BAD);
            refused(rich, "block(" + n + ", 1)", x -> x.block(n, 1), BAD);
            refused(rich, "block(1, " + n + ")", x -> x.block(1, n), BAD);
            refused(rich, "contact(" + n + ", 1)", x -> x.contact(n, 1), BAD);
            refused(rich, "contact(1, " + n + ")", x -> x.contact(1, n), BAD);
            refused(rich, "bounds(" + n + ", 1)", x -> x.bounds(n, 1), BAD);
            refused(rich, "bounds(1, " + n + ")", x -> x.bounds(1, n), BAD);
            refused(rich, "bears(" + n + ", 1, 1)", x -> x.bears(n, 1, 1), BAD);
            refused(rich, "bears(1, " + n + ", 1)", x -> x.bears(1, n, 1), BAD);
            refused(rich, "bears(1, 1, " + n + ")", x -> x.bears(1, 1, n), BAD);
            refused(rich, "where(" + n + ", 1)", x -> x.where(n, 1), BAD);
            refused(rich, "where(1, " + n + ")", x -> x.where(1, n), BAD);
            refused(rich, "weights(" + n + ")", x -> x.weights(n), BAD);
            refused(rich, "keep(" + n + ")", x -> x.keep(n), BAD);
            refused(rich, "back(" + n + ")", x -> x.back(n), BAD);
            refused(rich, "count(" + n + ")", x -> x.count(n), BAD);
        }
    }

    /** One beyond what a number may be, where nothing else stands in the way. */
    private static void badAlone() {
        Made two = RefusalTest::two;
        refused(two, "type(256)", x -> x.type(256), BAD);
        refused(two, "drops(10, 1, 1)", x -> x.drops(10, 1, 1), BAD);
        refused(two, "drops(0, 4, 1)", x -> x.drops(0, 4, 1), BAD);
        refused(two, "drops(0, 0, 1)", x -> x.drops(0, 0, 1), BAD);
        refused(two, "drops(0, 1, 10)", x -> x.drops(0, 1, 10), BAD);
        refused(two, "drops(0, 1, 0)", x -> x.drops(0, 1, 0), BAD);
        refused(two, "lifts(2)", x -> x.lifts(2), BAD);
        refused(two, "weighs(2, 5)", x -> x.weighs(2, 5), BAD);
        refused(two, "weighs(0, 0)", x -> x.weighs(0, 0), BAD);
        refused(two, "weighs(0, 10)", x -> x.weighs(0, 10), BAD);
        refused(two, "loads(2, 0, 1)", x -> x.loads(2, 0, 1), BAD);
        refused(two, "loads(0, 3, 1)", x -> x.loads(0, 3, 1), BAD);
        refused(two, "loads(1, 5, 3)", x -> x.loads(1, 5, 3), BAD);
        refused(two, "loads(1, 4, 21)", x -> x.loads(1, 4, 21), BAD);
        refused(two, "block(2, 0)", x -> x.block(2, 0), BAD);
        refused(two, "block(0, 8)", x -> x.block(0, 8), BAD);
        refused(two, "contact(4, 0)", x -> x.contact(4, 0), BAD);
        refused(two, "contact(0, 3)", x -> x.contact(0, 3), BAD);
        refused(two, "where(4, 1)", x -> x.where(4, 1), BAD);
        refused(two, "where(0, 1)", x -> x.where(0, 1), BAD);
        refused(two, "where(1, 10)", x -> x.where(1, 10), BAD);
        refused(two, "where(1, 0)", x -> x.where(1, 0), BAD);
        refused(two, "weights(2)", x -> x.weights(2), BAD);
        refused(two, "keep(2)", x -> x.keep(2), BAD);
        refused(two, "count(6)", x -> x.count(6), BAD);
    }

    private static void state() {
        Made rich = RefusalTest::rich;
        Made two = RefusalTest::two;
        check.sentence("lifts: STATE: one LIES on it");
        refused(rich, "lifts(0)", x -> x.lifts(0), STATE);
        refused(rich, "lifts(1)", x -> x.lifts(1), STATE);
        refused(rich, "lifts(2)", x -> x.lifts(2), STATE);
        refused(two, "lifts(0)", x -> x.lifts(0), STATE);
        check.sentence("weighs: STATE: it is that");
        refused(rich, "weighs(0, 5)", x -> x.weighs(0, 5), STATE);
        refused(rich, "weighs(3, 1)", x -> x.weighs(3, 1), STATE);
        check.sentence("loads: STATE: both are so");
        refused(rich, "loads(2, 6, 4)", x -> x.loads(2, 6, 4), STATE);
        refused(rich, "loads(0, 0, 0)", x -> x.loads(0, 0, 0), STATE);
        refused(two, "loads(1, 4, 3)", x -> x.loads(1, 4, 3), STATE);
        check.sentence("undo: STATE: none");
        refused(RestingBlocks::new, "undo()", x -> x.undo(), STATE);
        refused(RefusalTest::broughtBack, "undo() behind back()", x -> x.undo(), STATE);
        check.sentence("back: STATE: none was kept");
        refused(two, "back(0)", x -> x.back(0), STATE);
        refused(two, "back(1)", x -> x.back(1), STATE);
        refused(RefusalTest::broughtBack, "back(0), 1 was kept", x -> x.back(0), STATE);
    }

    private static RestingBlocks broughtBack() {
        RestingBlocks x = two();
        x.keep(1);
        x.drops(9, 3, 9);
        x.back(1);
        return x;
    }

    private static void full() {
        check.sentence("type: FULL: 120");
        refused(RefusalTest::filled, "type(98)", x -> x.type(98), FULL);
        refused(RefusalTest::filled, "type(0)", x -> x.type(0), FULL);
        check.sentence("drops: FULL: 4");
        refused(RefusalTest::rich, "drops(0, 1, 1)", x -> x.drops(0, 1, 1), FULL);
        refused(RefusalTest::rich, "drops(9, 3, 9)", x -> x.drops(9, 3, 9), FULL);
        check.sentence("where: FULL: there are 4");
        refused(RefusalTest::rich, "where(1, 1)", x -> x.where(1, 1), FULL);
        refused(RefusalTest::rich, "where(3, 9)", x -> x.where(3, 9), FULL);
    }

    private static void faults() {
        check.sentence("tells: -10 less FAULT: nothing changes, THE TEXT stays");
        String[] texts = {"x", "b 1 1 1; b 9 3 9; l 1 7 1;", "b 1 1 1; b", "l 0 0 0;", "b 1 1 1"};
        int[] places = {0, 22, 10, 2, 7};
        for (int i = 0; i < texts.length; i++) {
            String text = texts[i];
            Made made = () -> {
                RestingBlocks x = rich();
                x.clear();
                return Check.typed(x, text);
            };
            refused(made, "tells() of " + text, x -> x.tells(), -10 - places[i]);
        }
        check.sentence("THE TEXT stays: more letters can come");
        RestingBlocks x = Check.typed(new RestingBlocks(), "b 1 1 1");
        check.due("tells()", x.tells(), -17);
        check.due("type(';')", x.type(';'), 8);
        check.due("tells()", x.tells(), 1);
        check.due("count(4)", x.count(4), 0);
    }

    private static void whichComesFirst() {
        check.sentence("the first of these that is so: BAD, STATE, FULL");
        refused(RefusalTest::filled, "type(256), 120 letters", x -> x.type(256), BAD);
        refused(RefusalTest::filled, "type(-1), 120 letters", x -> x.type(-1), BAD);
        refused(RefusalTest::rich, "drops(10, 1, 1), four there", x -> x.drops(10, 1, 1), BAD);
        refused(RefusalTest::rich, "drops(0, 4, 1), four there", x -> x.drops(0, 4, 1), BAD);
        refused(RefusalTest::rich, "drops(0, 1, 10), four there", x -> x.drops(0, 1, 10), BAD);
        refused(RefusalTest::rich, "where(4, 1), four there", x -> x.where(4, 1), BAD);
        refused(RefusalTest::rich, "where(1, 10), four there", x -> x.where(1, 10), BAD);
        refused(RefusalTest::two, "back(2), none kept", x -> x.back(2), BAD);
        refused(RefusalTest::two, "back(-1), none kept", x -> x.back(-1), BAD);
        refused(RestingBlocks::new, "loads(0, 0, 0), no block", x -> x.loads(0, 0, 0), BAD);
        check.sentence("bounds, bears: BAD ahead of NONE");
        Made two = RefusalTest::two;
        check.due("rests()", two.one().rests(), 0);
        refused(two, "bounds(4, 0)", x -> x.bounds(4, 0), BAD);
        refused(two, "bounds(0, 4)", x -> x.bounds(0, 4), BAD);
        refused(two, "bears(2, 0, 0)", x -> x.bears(2, 0, 0), BAD);
        refused(two, "bears(0, 3, 0)", x -> x.bears(0, 3, 0), BAD);
        refused(two, "bears(0, 0, 4)", x -> x.bears(0, 0, 4), BAD);
        check.sentence("bears: BAD ahead of ENDLESS");
        RestingBlocks one = check.told("b 0 1 1;");
        check.due("bears(0, 1, 3)", one.bears(0, 1, 3), Check.ENDLESS);
        check.due("bears(0, 3, 3)", one.bears(0, 3, 3), BAD);
        check.due("bears(0, 1, 4)", one.bears(0, 1, 4), BAD);
    }

    private static void refusedIsNotUndone() {
        check.sentence("UNDONE: the latest .. that was not refused");
        RestingBlocks x = check.told("b 0 1 1; b 0 1 1; b 0 1 1; b 0 1 1;");
        x.weighs(3, 9);
        x.drops(0, 1, 1);
        x.drops(10, 1, 1);
        x.lifts(0);
        x.lifts(4);
        x.weighs(3, 9);
        x.weighs(3, 10);
        x.loads(3, 0, 0);
        x.loads(3, 3, 0);
        x.type('x');
        x.tells();
        x.back(0);
        x.back(2);
        x.where(1, 1);
        check.due("undo() of weighs()", x.undo(), 1);
        check.due("block(3, 2)", x.block(3, 2), 1);
        check.due("undo() of tells()", x.undo(), 0);
        check.due("count(0)", x.count(0), 0);
        check.due("undo()", x.undo(), STATE);
    }
}
