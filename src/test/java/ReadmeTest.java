/** The answers that README.md tells; whoever changes one of these changes that page, too. */
public final class ReadmeTest {
    public static void main(String[] args) {
        Check check = new Check("ReadmeTest");
        check.sentence("README.md, Use");
        RestingBlocks x = new RestingBlocks();
        check.due("drops(2, 2, 3)", x.drops(2, 2, 3), 0);
        check.due("bounds(0, 0)", x.bounds(0, 0), 3);
        check.due("bounds(0, 1)", x.bounds(0, 1), 2);
        check.due("drops(4, 3, 2)", x.drops(4, 3, 2), 1);
        check.due("rests()", x.rests(), 0);
        check.due("hold()", x.hold(), 2);
        check.due("bears(1, 0, 0)", x.bears(1, 0, 0), 1);
        check.due("bears(1, 0, 1)", x.bears(1, 0, 1), 1);
        check.due("bears(1, 0, 2)", x.bears(1, 0, 2), RestingBlocks.ENDLESS);
        check.due("loads(1, 0, 2)", x.loads(1, 0, 2), 0);
        check.due("rests()", x.rests(), 1);
        check.due("undo()", x.undo(), 2);
        Check.typed(x, "b 0 1 2; b 5 1 2; b 1 3 6; l 2 6 4;");
        check.due("tells()", x.tells(), 4);
        check.due("blocks", Check.blocks(x), "0 1 2 0 0 ; 5 1 2 0 0 ; 1 3 6 4 6 ;");
        check.end();
    }
}
