/** OVERLAP, LEVEL, LIES, CONTACTS, LIFTED: the cases at their edges. */
public final class LyingTest {
    private static final Check check = new Check("LyingTest");

    public static void main(String[] args) {
        onePointInCommon();
        allPlaces();
        levels();
        liesOnOneLevelLess();
        contactsOfGround();
        contactsByNumbers();
        lifted();
        liftedUnderWhatDoesNotLie();
        sums();
        everyRow();
        check.end();
    }

    private static void onePointInCommon() {
        check.sentence("Two BLOCKS OVERLAP, if their SPANS have more than one point in common");
        RestingBlocks x = check.told("b 4 1 1;");
        int[] lefts = {2, 6, 5, 3};
        int[] want = {0, 0, 1, 1};
        for (int i = 0; i < 4; i++) {
            check.due("drops(" + lefts[i] + ", 1, 1)", x.drops(lefts[i], 1, 1), want[i]);
            check.due("block(0, 7)", x.block(0, 7), want[i] == 0 ? 0 : 2);
            check.due("block(1, 6)", x.block(1, 6), want[i]);
            x.undo();
        }
        check.due("one within the other", check.told("b 4 3 1;b 6 1 1;").block(1, 5), 1);
        check.due("the other within the one", check.told("b 6 1 1;b 4 3 1;").block(1, 5), 1);
        check.due("the same SPAN", check.told("b 6 1 1;b 6 1 1;").block(1, 5), 1);
        check.due("none of both sides", check.told("b 0 1 1;b 4 1 1;b 2 1 1;").block(2, 5), 0);
    }

    private static void allPlaces() {
        check.sentence("its SPAN goes from LEFT to LEFT and twice HALF");
        for (int half = 1; half <= 3; half++) {
            for (int left = 0; left <= 9; left++) {
                RestingBlocks x = check.told("b 5 1 1;");
                int want = left < 7 && left + 2 * half > 5 ? 1 : 0;
                check.due("drops(" + left + ", " + half + ", 1)", x.drops(left, half, 1), want);
                check.due("its left end", x.contact(2, 2), want == 0 ? left : Math.max(left, 5));
                check.due("its right end", x.contact(3, 2), want == 0 ? left + 2 * half : Math.min(left + 2 * half, 7));
            }
        }
    }

    private static void levels() {
        check.sentence("LEVEL: 0, if it OVERLAPS none that is ahead of it in the row");
        RestingBlocks flat = check.told("b 0 1 1;b 2 1 1;b 4 1 1;b 6 1 1;");
        check.due("count(3)", flat.count(3), 0);
        check.due("count(1)", flat.count(1), 8);
        check.due("count(3) of one", check.told("b 3 1 1;").count(3), 0);
        check.sentence("LEVEL: else one more than the greatest LEVEL of those that are ahead and that it OVERLAPS");
        RestingBlocks tower = check.told("b 3 1 1;b 3 1 1;b 3 1 1;b 3 1 1;");
        check.due("count(3)", tower.count(3), 3);
        for (int b = 0; b < 4; b++) {
            check.due("block(" + b + ", 5)", tower.block(b, 5), b);
            check.due("block(" + b + ", 6)", tower.block(b, 6), b == 0 ? 0 : 1 << b - 1);
            check.due("block(" + b + ", 7)", tower.block(b, 7), b == 3 ? 0 : 1 << b + 1);
        }
        check.sentence("LEVEL: of those ahead; one behind in the row is not under it");
        RestingBlocks x = check.told("b 6 1 1;b 0 1 1;b 0 3 1;");
        check.due("block(0, 5)", x.block(0, 5), 0);
        check.due("block(2, 5)", x.block(2, 5), 1);
        check.due("block(2, 6)", x.block(2, 6), 2);
    }

    private static void liesOnOneLevelLess() {
        check.sentence("any other one on each that is ahead, that it OVERLAPS and whose LEVEL is one less than its own");
        RestingBlocks x = check.told("b 0 1 1;b 3 1 1;b 3 1 1;b 0 3 1;");
        check.due("block(3, 5)", x.block(3, 5), 2);
        check.due("block(3, 6)", x.block(3, 6), 4);
        check.due("block(0, 7)", x.block(0, 7), 0);
        check.due("block(1, 7)", x.block(1, 7), 4);
        check.due("block(2, 7)", x.block(2, 7), 8);
        check.due("count(1)", x.count(1), 8);
        RestingBlocks three = check.told("b 0 1 1;b 2 1 1;b 4 1 1;b 0 3 1;");
        check.due("block(3, 6), on three", three.block(3, 6), 7);
        RestingBlocks one = check.told("b 0 3 1;b 0 1 1;b 2 1 1;b 4 1 1;");
        check.due("block(0, 7), three on one", one.block(0, 7), 14);
        check.due("block(0, 6): the GROUND", one.block(0, 6), 0);
    }

    private static void contact(RestingBlocks x, int c, int upper, int lower, int place) {
        check.due("contact(" + c + ", 0)", x.contact(c, 0), upper);
        check.due("contact(" + c + ", 1)", x.contact(c, 1), lower);
        check.due("contact(" + c + ", 2)", x.contact(c, 2), place);
    }

    private static void contactsOfGround() {
        check.sentence("CONTACTS: if it LIES on the GROUND, the left end of its SPAN, then the right one");
        RestingBlocks x = check.told("b 9 3 1;b 0 1 1;");
        check.due("count(1)", x.count(1), 4);
        contact(x, 0, 0, Check.NONE, 9);
        contact(x, 1, 0, Check.NONE, 15);
        contact(x, 2, 1, Check.NONE, 0);
        contact(x, 3, 1, Check.NONE, 2);
    }

    private static void contactsByNumbers() {
        check.sentence("CONTACTS: for each on which it LIES, by numbers, the left end, then the right end of what is common");
        RestingBlocks x = check.told("b 5 1 1;b 0 1 1;b 1 3 1;b 2 1 1;");
        check.due("count(1)", x.count(1), 10);
        contact(x, 4, 2, 0, 5);
        contact(x, 5, 2, 0, 7);
        contact(x, 6, 2, 1, 1);
        contact(x, 7, 2, 1, 2);
        contact(x, 8, 3, 2, 2);
        contact(x, 9, 3, 2, 4);
        check.sentence("CONTACTS are numbered: BLOCK by BLOCK, whatever their LEVEL");
        RestingBlocks y = check.told("b 0 1 1;b 1 1 1;b 8 1 1;");
        contact(y, 2, 1, 0, 1);
        contact(y, 3, 1, 0, 2);
        contact(y, 4, 2, Check.NONE, 8);
        contact(y, 5, 2, Check.NONE, 10);
    }

    private static void lifted() {
        check.sentence("LIFTED: those behind it have numbers 1 lower; LEVELS are found anew");
        RestingBlocks x = check.told("b 8 1 9;b 0 1 1;b 0 1 2;l 1 1 3;l 2 2 4;");
        check.due("lifts(0)", x.lifts(0), 2);
        check.due("blocks", Check.blocks(x), "0 1 1 3 1 ; 0 1 2 4 2 ;");
        check.due("block(0, 7)", x.block(0, 7), 2);
        check.due("block(1, 6)", x.block(1, 6), 1);
        contact(x, 2, 1, 0, 0);
        check.due("lifts(0)", x.lifts(0), Check.STATE);
        check.due("lifts(1)", x.lifts(1), 1);
        check.due("lifts(0)", x.lifts(0), 0);
        check.due("lifts(0)", x.lifts(0), Check.BAD);
        check.sentence("DROPPED: a BLOCK comes to the end of the row");
        RestingBlocks y = check.told("b 0 1 1;b 4 1 2;");
        y.lifts(0);
        check.due("drops(4, 1, 3)", y.drops(4, 1, 3), 1);
        check.due("blocks", Check.blocks(y), "4 1 2 0 0 ; 4 1 3 0 0 ;");
        check.sentence("a LOAD (0 at first) at a SPOT (0 at first), where a LIFTED BLOCK had others");
        y.loads(1, 2, 20);
        check.due("lifts(1)", y.lifts(1), 1);
        check.due("drops(4, 1, 3)", y.drops(4, 1, 3), 1);
        check.due("blocks", Check.blocks(y), "4 1 2 0 0 ; 4 1 3 0 0 ;");
    }

    private static void liftedUnderWhatDoesNotLie() {
        check.sentence("lifts: STATE: one LIES on it; not, if one is above it that LIES on others alone");
        RestingBlocks x = check.told("b 0 1 1;b 3 1 2;b 3 1 3;b 0 3 4;");
        check.due("lifts(1)", x.lifts(1), Check.STATE);
        check.due("lifts(2)", x.lifts(2), Check.STATE);
        check.due("lifts(0)", x.lifts(0), 3);
        check.due("block(2, 5)", x.block(2, 5), 2);
        check.due("block(2, 6)", x.block(2, 6), 2);
        check.due("block(1, 7)", x.block(1, 7), 4);
        check.due("count(3)", x.count(3), 2);
    }

    private static void sums() {
        check.sentence("count: 2 all WEIGHTS and LOADS together");
        RestingBlocks x = new RestingBlocks();
        check.due("count(2)", x.count(2), 0);
        x.drops(0, 1, 1);
        check.due("count(2)", x.count(2), 1);
        x.loads(0, 2, 20);
        check.due("count(2)", x.count(2), 21);
        x.weighs(0, 9);
        check.due("count(2)", x.count(2), 29);
        x.drops(5, 1, 4);
        check.due("count(2)", x.count(2), 33);
        x.lifts(0);
        check.due("count(2): a lifted LOAD is gone", x.count(2), 4);
    }

    /** Every row of four blocks that there is (of one weight): levels, what lies on what, contacts. */
    private static void everyRow() {
        check.sentence("LEVEL, LIES, CONTACTS of every row of four BLOCKS");
        int shapes = 30;
        int most = 0;
        // The first row that lies otherwise ends it: there may be half a million of them.
        for (int row = 0; row < shapes * shapes * shapes * shapes && most >= 0; row++) {
            int[] lefts = new int[4];
            int[] rights = new int[4];
            for (int b = 0, rest = row; b < 4; b++, rest /= shapes) {
                lefts[b] = rest % 10;
                rights[b] = lefts[b] + 2 * (1 + rest % shapes / 10);
            }
            int contacts = oneRow(lefts, rights);
            most = contacts < 0 ? -1 : Math.max(most, contacts);
        }
        check.due("the most contacts", most, 12);
    }

    /** How many contacts it has; -1, if it lies otherwise than it must. */
    private static int oneRow(int[] lefts, int[] rights) {
        RestingBlocks x = new RestingBlocks();
        int[] levels = new int[4];
        int contacts = 0;
        boolean good = true;
        for (int b = 0; b < 4; b++) {
            for (int a = 0; a < b; a++) {
                levels[b] = common(lefts, rights, a, b) > 0 ? Math.max(levels[b], levels[a] + 1) : levels[b];
            }
            good &= x.drops(lefts[b], (rights[b] - lefts[b]) / 2, 1) == levels[b];
            int under = 0;
            for (int a = 0; a < b; a++) {
                if (common(lefts, rights, a, b) > 0 && levels[a] + 1 == levels[b]) {
                    under |= 1 << a;
                    good &= pair(x, contacts, b, a, Math.max(lefts[a], lefts[b]), Math.min(rights[a], rights[b]));
                    good &= (x.block(a, 7) >> b & 1) == 1;
                    contacts += 2;
                }
            }
            if (levels[b] == 0) {
                good &= pair(x, contacts, b, Check.NONE, lefts[b], rights[b]);
                contacts += 2;
            }
            good &= x.block(b, 6) == under && x.block(b, 7) == 0 && x.count(1) == contacts;
        }
        if (!good) {
            check.fail("a row that lies otherwise: " + Check.blocks(x));
        }
        return good ? contacts : -1;
    }

    /** How long what two spans have in common is; not above 0, if it is a point or nothing. */
    private static int common(int[] lefts, int[] rights, int a, int b) {
        return Math.min(rights[a], rights[b]) - Math.max(lefts[a], lefts[b]);
    }

    private static boolean pair(RestingBlocks x, int c, int upper, int lower, int left, int right) {
        return x.contact(c, 0) == upper && x.contact(c, 1) == lower && x.contact(c, 2) == left
            && x.contact(c + 1, 0) == upper && x.contact(c + 1, 1) == lower && x.contact(c + 1, 2) == right;
    }
}
