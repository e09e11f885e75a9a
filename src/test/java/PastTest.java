/** UNDONE and IMAGES: what each brings back, and what it leaves as it is. */
public final class PastTest {
    private static final Check check = new Check("PastTest");
    private static final String THREE = "b 0 1 2;b 5 1 3;b 1 3 6;l 2 6 4;";

    public static void main(String[] args) {
        eachDeed();
        allInARow();
        textStays();
        imagesBesideUndo();
        backForgets();
        imagesAreCopies();
        keptAnew();
        check.end();
    }

    /** All that is asked is as ahead of the deed, but for how many may be undone. */
    private static void undone(String call, Check.Deed deed, long want) {
        RestingBlocks x = check.told(THREE);
        String was = Check.asked(x);
        check.due(call, deed.on(x), want);
        check.due("count(5) behind " + call, x.count(5), 2);
        if (Check.blocks(x).equals(Check.blocks(check.told(THREE)))) {
            check.fail(call + " changed nothing");
        }
        check.due("undo() of " + call, x.undo(), 1);
        check.due("all behind undo() of " + call, Check.asked(x), was);
    }

    private static void eachDeed() {
        check.sentence("UNDONE: the latest tells(), drops(), lifts(), weighs(), loads(): BLOCKS are as ahead of it");
        undone("tells()", x -> Check.typed(x, "b 7 1 1;").tells(), 1);
        undone("tells() of nothing", x -> x.tells(), 0);
        undone("drops(3, 2, 1)", x -> x.drops(3, 2, 1), 2);
        undone("lifts(2)", x -> x.lifts(2), 2);
        undone("weighs(1, 9)", x -> x.weighs(1, 9), 3);
        undone("loads(2, 6, 5)", x -> x.loads(2, 6, 5), 4);
        undone("loads(2, 5, 4), another SPOT alone", x -> x.loads(2, 5, 4), 4);
        undone("loads(0, 2, 0), another SPOT of no LOAD", x -> x.loads(0, 2, 0), 0);
        check.sentence("UNDONE: one in the midst of the row comes back to its place");
        RestingBlocks x = check.told("b 0 1 1;b 4 1 2;b 8 1 3;l 0 1 4;l 1 2 5;l 2 2 6;");
        check.due("lifts(1)", x.lifts(1), 2);
        check.due("blocks", Check.blocks(x), "0 1 1 4 1 ; 8 1 3 6 2 ;");
        check.due("undo()", x.undo(), 1);
        check.due("blocks", Check.blocks(x), "0 1 1 4 1 ; 4 1 2 5 2 ; 8 1 3 6 2 ;");
    }

    private static void allInARow() {
        check.sentence("6 are known: of every kind, the latest first");
        RestingBlocks x = check.told("b 0 1 2;");
        x.keep(0);
        x.drops(0, 1, 3);
        x.weighs(0, 9);
        x.loads(1, 2, 20);
        x.lifts(1);
        Check.typed(x, "b 9 3 9;");
        x.tells();
        x.drops(0, 1, 1);
        check.due("count(5)", x.count(5), 6);
        String[] was = {"9 3 9 0 0 ;", "0 1 9 0 0 ;", "0 1 9 0 0 ; 0 1 3 20 2 ;", "0 1 9 0 0 ; 0 1 3 0 0 ;",
            "0 1 2 0 0 ; 0 1 3 0 0 ;", "0 1 2 0 0 ;"};
        for (int i = 0; i < 6; i++) {
            check.due("undo()", x.undo(), 5 - i);
            check.due("count(5)", x.count(5), 5 - i);
            check.due("blocks", Check.blocks(x), was[i]);
        }
        check.due("undo(): the first tells() is lost", x.undo(), Check.STATE);
        check.due("blocks", Check.blocks(x), "0 1 2 0 0 ;");
        check.sentence("a LOAD and a SPOT that were undone are not there for the next BLOCK");
        check.due("drops(0, 1, 3)", x.drops(0, 1, 3), 1);
        check.due("blocks", Check.blocks(x), "0 1 2 0 0 ; 0 1 3 0 0 ;");
    }

    private static void textStays() {
        check.sentence("UNDONE: BLOCKS are as ahead of it; IMAGES keep BLOCKS; nothing else: THE TEXT is as it is");
        RestingBlocks x = check.told("b 0 1 2;");
        check.due("count(4) behind tells()", x.count(4), 0);
        check.due("undo() of tells()", x.undo(), 0);
        check.due("count(4): the letters told don't come back", x.count(4), 0);
        Check.typed(x, "b 3 1 ");
        x.keep(0);
        x.drops(1, 1, 1);
        x.weighs(0, 2);
        x.loads(0, 1, 1);
        x.undo();
        x.lifts(0);
        check.due("count(4)", x.count(4), 6);
        x.back(0);
        check.due("count(4) behind back()", x.count(4), 6);
        Check.typed(x, "4;");
        check.due("tells()", x.tells(), 1);
        check.due("blocks", Check.blocks(x), "3 1 4 0 0 ;");
        x.back(0);
        check.due("count(4): back() brings no letters", x.count(4), 0);
    }

    private static void imagesBesideUndo() {
        check.sentence("keep: what can be UNDONE stays; undo() leaves IMAGES");
        RestingBlocks x = check.told("b 0 1 2;");
        x.weighs(0, 5);
        check.due("keep(0)", x.keep(0), 1);
        check.due("count(5) behind keep()", x.count(5), 2);
        check.due("undo()", x.undo(), 1);
        check.due("block(0, 2)", x.block(0, 2), 2);
        check.due("undo()", x.undo(), 0);
        check.due("back(0)", x.back(0), 1);
        check.due("block(0, 2)", x.block(0, 2), 5);
    }

    private static void backForgets() {
        check.sentence("nothing can be UNDONE behind back()");
        RestingBlocks x = check.told("b 0 1 2;");
        x.keep(1);
        for (int weight = 3; weight <= 9; weight++) {
            x.weighs(0, weight);
        }
        check.due("count(5)", x.count(5), 6);
        check.due("back(1)", x.back(1), 1);
        check.due("count(5)", x.count(5), 0);
        check.due("undo()", x.undo(), Check.STATE);
        check.due("blocks", Check.blocks(x), "0 1 2 0 0 ;");
        x.weighs(0, 8);
        check.due("count(5)", x.count(5), 1);
        check.due("undo()", x.undo(), 0);
        check.due("blocks", Check.blocks(x), "0 1 2 0 0 ;");
        check.due("undo(): what was ahead of back() is lost", x.undo(), Check.STATE);
        check.sentence("back to BLOCKS that are there: nothing can be UNDONE, too");
        x.weighs(0, 8);
        x.keep(0);
        check.due("back(0)", x.back(0), 1);
        check.due("count(5)", x.count(5), 0);
        check.sentence("back, refused: what can be UNDONE stays");
        RestingBlocks y = check.told("b 0 1 2;");
        check.due("back(0)", y.back(0), Check.STATE);
        check.due("back(2)", y.back(2), Check.BAD);
        check.due("undo()", y.undo(), 0);
    }

    private static void imagesAreCopies() {
        check.sentence("All of that becomes as an IMAGE has it");
        RestingBlocks x = check.told(THREE);
        String was = Check.blocks(x);
        check.due("keep(0)", x.keep(0), 3);
        x.weighs(0, 9);
        x.loads(2, 0, 20);
        check.due("back(0)", x.back(0), 3);
        check.due("blocks", Check.blocks(x), was);
        x.lifts(2);
        x.weighs(0, 8);
        check.due("back(0), changed behind the first back()", x.back(0), 3);
        check.due("blocks", Check.blocks(x), was);
        check.due("drops(3, 2, 1)", x.drops(3, 2, 1), 2);
        check.due("keep(1)", x.keep(1), 4);
        check.due("back(0)", x.back(0), 3);
        check.due("back(1)", x.back(1), 4);
        check.due("blocks", Check.blocks(x), was + "3 2 1 0 0 ;");
    }

    private static void keptAnew() {
        check.sentence("keep: an IMAGE kept anew has the later BLOCKS, the other one its own");
        RestingBlocks x = check.told("b 0 1 2;b 4 1 2;");
        x.keep(0);
        x.keep(1);
        x.lifts(0);
        check.due("keep(0)", x.keep(0), 1);
        check.due("back(1)", x.back(1), 2);
        check.due("back(0)", x.back(0), 1);
        check.due("blocks", Check.blocks(x), "4 1 2 0 0 ;");
        x.lifts(0);
        check.due("keep(1) of nothing", x.keep(1), 0);
        check.due("back(0)", x.back(0), 1);
        check.due("back(1)", x.back(1), 0);
        check.due("count(0)", x.count(0), 0);
    }
}
