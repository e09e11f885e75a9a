/** Nothing there: no BLOCKS, an empty text, nothing to be UNDONE, no IMAGE kept. */
public final class NothingTest {
    private static final Check check = new Check("NothingTest");

    public static void main(String[] args) {
        newObject();
        nothingIsThereAgain();
        emptyText();
        nothingUndone();
        noImage();
        check.end();
    }

    private static void noBlocks(RestingBlocks x) {
        check.due("count(0)", x.count(0), 0);
        check.due("count(1)", x.count(1), 0);
        check.due("count(2)", x.count(2), 0);
        check.due("count(3)", x.count(3), Check.NONE);
        check.due("rests()", x.rests(), 1);
        check.due("key()", x.key(), Check.NONE);
        check.due("hold()", x.hold(), 0);
        for (int what = -1; what < 8; what++) {
            check.due("block(0, " + what + ")", x.block(0, what), Check.BAD);
            check.due("contact(0, " + what + ")", x.contact(0, what), Check.BAD);
            check.due("bounds(0, " + what + ")", x.bounds(0, what), Check.BAD);
            check.due("bears(0, 0, " + what + ")", x.bears(0, 0, what), Check.BAD);
        }
        check.due("weights(0)", x.weights(0), Check.BAD);
        check.due("lifts(0)", x.lifts(0), Check.BAD);
        check.due("weighs(0, 1)", x.weighs(0, 1), Check.BAD);
        check.due("loads(0, 0, 0)", x.loads(0, 0, 0), Check.BAD);
        for (int half = 1; half <= 3; half++) {
            check.due("where(" + half + ", 1)", x.where(half, 1), 1023);
            check.due("where(" + half + ", 9)", x.where(half, 9), 1023);
        }
    }

    private static void newObject() {
        check.sentence("RestingBlocks(): No BLOCKS. (Without BLOCKS it RESTS.)");
        RestingBlocks x = new RestingBlocks();
        noBlocks(x);
        check.due("count(4)", x.count(4), 0);
        check.due("count(5)", x.count(5), 0);
        check.sentence("no other object is touched");
        RestingBlocks one = check.told("b 1 1 1;");
        one.keep(0);
        noBlocks(new RestingBlocks());
        check.due("back(0) of another", new RestingBlocks().back(0), Check.STATE);
    }

    private static void nothingIsThereAgain() {
        check.sentence("No BLOCKS, behind the last one was LIFTED");
        RestingBlocks x = check.told("b 2 1 5; l 0 2 7;");
        check.due("lifts(0)", x.lifts(0), 0);
        noBlocks(x);
        check.sentence("No BLOCKS, behind the first one was UNDONE");
        RestingBlocks y = new RestingBlocks();
        y.drops(2, 1, 5);
        check.due("undo()", y.undo(), 0);
        noBlocks(y);
        check.sentence("No BLOCKS, behind an empty text was told");
        RestingBlocks z = check.told("b 2 1 5; b 2 1 5;");
        check.due("tells()", z.tells(), 0);
        noBlocks(z);
    }

    private static void emptyText() {
        check.sentence("It tells BLOCKS by ITEMS (none, too)");
        RestingBlocks x = check.told("b 2 1 5;");
        check.due("clear()", x.clear(), 0);
        check.due("tells() of an empty text", x.tells(), 0);
        check.due("count(0)", x.count(0), 0);
        check.due("count(5)", x.count(5), 2);
        check.due("undo()", x.undo(), 1);
        check.due("blocks", Check.blocks(x), "2 1 5 0 0 ;");
        Check.typed(x, " ");
        check.due("tells() of a blank", x.tells(), 0);
        check.due("count(4)", x.count(4), 0);
        check.due("count(0)", x.count(0), 0);
        check.due("undo()", x.undo(), 1);
        check.due("blocks", Check.blocks(x), "2 1 5 0 0 ;");
        check.sentence("tells(): an empty text on a new object can be UNDONE");
        RestingBlocks y = new RestingBlocks();
        check.due("tells()", y.tells(), 0);
        check.due("count(5)", y.count(5), 1);
        check.due("undo()", y.undo(), 0);
        check.due("undo()", y.undo(), Check.STATE);
        check.sentence("clear: THE TEXT is empty: how many letters it had");
        check.due("clear() of nothing", y.clear(), 0);
        check.due("type('x')", y.type('x'), 1);
        check.due("clear()", y.clear(), 1);
        check.due("clear()", y.clear(), 0);
        check.due("tells() behind clear()", y.tells(), 0);
    }

    private static void nothingUndone() {
        check.sentence("undo: STATE: none");
        RestingBlocks x = new RestingBlocks();
        check.due("undo()", x.undo(), Check.STATE);
        x.type('b');
        check.due("type() is not UNDONE", x.undo(), Check.STATE);
        x.clear();
        check.due("clear() is not UNDONE", x.undo(), Check.STATE);
        x.keep(0);
        check.due("keep() is not UNDONE", x.undo(), Check.STATE);
        x.back(0);
        check.due("back() is not UNDONE", x.undo(), Check.STATE);
        x.drops(0, 1, 1);
        check.due("undo()", x.undo(), 0);
        check.due("undo()", x.undo(), Check.STATE);
        check.due("count(5)", x.count(5), 0);
        check.due("count(0)", x.count(0), 0);
    }

    private static void noImage() {
        check.sentence("back: STATE: none was kept");
        RestingBlocks x = check.told("b 2 1 5;");
        check.due("back(0)", x.back(0), Check.STATE);
        check.due("back(1)", x.back(1), Check.STATE);
        check.due("keep(1)", x.keep(1), 1);
        check.due("back(0), the other one is kept", x.back(0), Check.STATE);
        check.due("back(1)", x.back(1), 1);
        check.sentence("keep: an IMAGE of no BLOCKS is one");
        RestingBlocks y = new RestingBlocks();
        check.due("keep(0)", y.keep(0), 0);
        check.due("back(0)", y.back(0), 0);
        y.drops(1, 1, 1);
        check.due("back(0)", y.back(0), 0);
        check.due("count(0)", y.count(0), 0);
        check.due("back(1)", y.back(1), Check.STATE);
    }
}
