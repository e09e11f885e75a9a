/** Every number that a call takes: the least and the greatest that it may be, what is next to them, and far ones. */
public final class NumbersTest {
    private static final Check check = new Check("NumbersTest");
    /** Two on the ground, one on both, one on that one: 10 contacts; halves 1, 1, 3, 2. */
    private static final String FOUR = "b 0 1 2; b 5 1 3; b 1 3 6; b 3 2 1;";
    private static final String ONE = "b 4 1 1;";

    private interface At {
        long of(RestingBlocks x, int number);
    }

    public static void main(String[] args) {
        told();
        done();
        spots();
        asked();
        images();
        greatestOfAll();
        numbersOfThingsFollowTheBlocks();
        check.end();
    }

    /** All numbers from least to most may be, each on an object of its own; none outside. */
    private static void range(String call, String text, At at, int least, int most) {
        for (int n = least; n <= most; n++) {
            if (at.of(check.told(text), n) == Check.BAD) {
                check.fail(call + " of " + n + " answered BAD");
            }
        }
        int[] outside = {least - 1, most + 1, least - 256, most + 256, most + 65_536, least - 65_536, 1 << 30, -(1 << 30),
            Integer.MIN_VALUE, Integer.MIN_VALUE + 1, Integer.MIN_VALUE + least, Integer.MIN_VALUE + most,
            Integer.MAX_VALUE, Integer.MAX_VALUE - 1, Integer.MAX_VALUE - most};
        RestingBlocks x = check.told(text);
        String was = Check.asked(x);
        for (int n : outside) {
            check.due(call + " of " + n, at.of(x, n), Check.BAD);
        }
        check.due(call + ", all that is seen", Check.asked(x), was);
    }

    private static void told() {
        check.sentence("A letter (0 .. 255) comes to THE TEXT");
        range("type", ONE, (x, n) -> x.type(n), 0, 255);
    }

    private static void done() {
        check.sentence("LEFT (0 .. 9), HALF (1 .. 3), WEIGHT (1 .. 9)");
        range("drops, left", ONE, (x, n) -> x.drops(n, 1, 1), 0, 9);
        range("drops, half", ONE, (x, n) -> x.drops(0, n, 1), 1, 3);
        range("drops, weight", ONE, (x, n) -> x.drops(0, 1, n), 1, 9);
        check.sentence("lifts: BAD, there is no such thing");
        range("lifts", FOUR, (x, n) -> x.lifts(n), 0, 3);
        check.sentence("WEIGHT (1 .. 9)");
        range("weighs, block", FOUR, (x, n) -> x.weighs(n, 9), 0, 3);
        range("weighs, weight", FOUR, (x, n) -> x.weighs(3, n), 1, 9);
        check.sentence("a LOAD (0 .. 20; 0 at first)");
        range("loads, block", FOUR, (x, n) -> x.loads(n, 2, 9), 0, 3);
        range("loads, load", FOUR, (x, n) -> x.loads(3, 1, n), 0, 20);
    }

    private static void spots() {
        check.sentence("at a SPOT (0 to twice HALF from LEFT on; 0 at first)");
        int[] halves = {1, 1, 3, 2};
        for (int b = 0; b < 4; b++) {
            int block = b;
            range("loads, spot of " + b, FOUR, (x, n) -> x.loads(block, n, 9), 0, 2 * halves[b]);
            range("loads 0, spot of " + b, FOUR, (x, n) -> x.loads(block, n, 0), 0, 2 * halves[b]);
            range("bears, spot of " + b, FOUR, (x, n) -> x.bears(block, n, 0), 0, 2 * halves[b]);
        }
    }

    private static void asked() {
        check.sentence("block: 0 LEFT .. 7 BLOCKS that LIE on it; BAD");
        range("block, block", FOUR, (x, n) -> x.block(n, 7), 0, 3);
        range("block, what", FOUR, (x, n) -> x.block(2, n), 0, 7);
        check.sentence("contact: 0 which BLOCK, 1 on which one, 2 where; BAD");
        range("contact, contact", FOUR, (x, n) -> x.contact(n, 2), 0, 9);
        range("contact, what", FOUR, (x, n) -> x.contact(9, n), 0, 2);
        check.sentence("bounds: what = 0 .. 3; BAD");
        range("bounds, contact", FOUR, (x, n) -> x.bounds(n, 3), 0, 9);
        range("bounds, what", FOUR, (x, n) -> x.bounds(9, n), 0, 3);
        check.sentence("bears: what = 0 .. 3; BAD");
        range("bears, block", FOUR, (x, n) -> x.bears(n, 2, 3), 0, 3);
        range("bears, what", FOUR, (x, n) -> x.bears(3, 2, n), 0, 3);
        check.sentence("where: a HALF and a WEIGHT; BAD");
        range("where, half", ONE, (x, n) -> x.where(n, 1), 1, 3);
        range("where, weight", ONE, (x, n) -> x.where(1, n), 1, 9);
        check.sentence("weights: BAD");
        range("weights", FOUR, (x, n) -> x.weights(n), 0, 3);
        check.sentence("count: 0 BLOCKS .. 5 how many may be UNDONE; BAD");
        range("count", FOUR, (x, n) -> x.count(n), 0, 5);
        range("count of nothing", "", (x, n) -> x.count(n), 0, 5);
    }

    private static void images() {
        check.sentence("IMAGES 0, 1");
        range("keep", FOUR, (x, n) -> x.keep(n), 0, 1);
        range("back, none kept", FOUR, (x, n) -> x.back(n), 0, 1);
        range("keep, back", FOUR, (x, n) -> Math.min(x.keep(n), x.back(n)), 0, 1);
    }

    private static void greatestOfAll() {
        check.sentence("the greatest that a number may be is kept whole");
        RestingBlocks x = new RestingBlocks();
        for (int b = 0; b < 4; b++) {
            check.due("drops(9, 3, 9)", x.drops(9, 3, 9), b);
            check.due("loads(" + b + ", 6, 20)", x.loads(b, 6, 20), 0);
        }
        check.due("blocks", Check.blocks(x), "9 3 9 20 6 ; 9 3 9 20 6 ; 9 3 9 20 6 ; 9 3 9 20 6 ;");
        check.due("count(2)", x.count(2), 116);
        check.due("contact(7, 2)", x.contact(7, 2), 15);
        check.due("bounds(0)", Check.bounds(x, 0), 18, 1, 18, 1);
        check.due("bounds(1)", Check.bounds(x, 1), 98, 1, 98, 1);
        check.sentence("the least that a number may be");
        RestingBlocks y = new RestingBlocks();
        check.due("drops(0, 1, 1)", y.drops(0, 1, 1), 0);
        check.due("blocks", Check.blocks(y), "0 1 1 0 0 ;");
        check.due("contact(0, 2)", y.contact(0, 2), 0);
        check.due("count(2)", y.count(2), 1);
    }

    private static void numbersOfThingsFollowTheBlocks() {
        check.sentence("there is no such thing: a block, a contact that is no longer there");
        RestingBlocks x = check.told("b 0 1 1; b 4 1 1;");
        check.due("contact(3, 0)", x.contact(3, 0), 1);
        check.due("bounds(3, 0)", x.bounds(3, 0), 1);
        check.due("bears(1, 0, 0)", x.bears(1, 0, 0), 0);
        check.due("lifts(1)", x.lifts(1), 1);
        check.due("block(1, 0)", x.block(1, 0), Check.BAD);
        check.due("contact(2, 0)", x.contact(2, 0), Check.BAD);
        check.due("bounds(2, 0)", x.bounds(2, 0), Check.BAD);
        check.due("bears(1, 0, 0)", x.bears(1, 0, 0), Check.BAD);
        check.due("weights(1)", x.weights(1), Check.BAD);
        check.due("lifts(1)", x.lifts(1), Check.BAD);
        check.due("weighs(1, 5)", x.weighs(1, 5), Check.BAD);
        check.due("loads(1, 0, 5)", x.loads(1, 0, 5), Check.BAD);
        check.due("where(1, 1)", x.where(1, 1), 1023);
        check.due("contact(2, 0) behind where()", x.contact(2, 0), Check.BAD);
        check.due("block(1, 0) behind where()", x.block(1, 0), Check.BAD);
        check.due("undo()", x.undo(), 1);
        check.due("contact(3, 0)", x.contact(3, 0), 1);
    }
}
