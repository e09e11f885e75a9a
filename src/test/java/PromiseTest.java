/** Each promise of the document: ordinary inputs, the edges that it names, and wrong inputs. */
public final class PromiseTest {
    private static final int BAD = -1, STATE = -2, FULL = -3, ENDLESS = -5, NONE = -9;
    private static final int[] FAR = {Integer.MIN_VALUE, -1000, -1, 256, 1000, Integer.MAX_VALUE};
    private static int wrong = 0;
    private static int promise = 0;

    public static void main(String[] args) {
        constants();
        newObject();
        type();
        clear();
        tells();
        faults();
        drops();
        lifts();
        weighs();
        loads();
        undo();
        block();
        contact();
        rests();
        bounds();
        bears();
        where();
        weights();
        key();
        hold();
        keep();
        back();
        count();
        refusedInOrder();
        System.out.println(wrong == 0 ? "PromiseTest: all as due" : "PromiseTest: " + wrong + " wrong");
        if (wrong != 0) {
            System.exit(1);
        }
    }

    private static void due(String call, long got, long want) {
        if (got != want) {
            wrong++;
            System.out.println("promise " + promise + ": " + call + " answered " + got + ", due is " + want);
        }
    }

    /** Types the letters without a look at the answers. */
    private static RestingBlocks typed(RestingBlocks x, String letters) {
        for (int i = 0; i < letters.length(); i++) {
            x.type(letters.charAt(i));
        }
        return x;
    }

    /** A new object with the blocks that a text tells. */
    private static RestingBlocks told(String letters) {
        RestingBlocks x = typed(new RestingBlocks(), letters);
        due("tells() of " + letters, Math.min(x.tells(), 0), 0);
        return x;
    }

    /** All that can be seen of the blocks, as a text. */
    private static String seen(RestingBlocks x) {
        StringBuilder all = new StringBuilder();
        for (int b = 0; b < x.count(0); b++) {
            for (int what = 0; what < 5; what++) {
                all.append(x.block(b, what)).append(' ');
            }
            all.append("; ");
        }
        return all.toString();
    }

    private static void sees(RestingBlocks x, String want) {
        String got = seen(x);
        if (!got.trim().equals(want.trim())) {
            wrong++;
            System.out.println("promise " + promise + ": blocks are " + got + ", due are " + want);
        }
    }

    private static void constants() {
        due("BAD", RestingBlocks.BAD, BAD);
        due("STATE", RestingBlocks.STATE, STATE);
        due("FULL", RestingBlocks.FULL, FULL);
        due("ENDLESS", RestingBlocks.ENDLESS, ENDLESS);
        due("NONE", RestingBlocks.NONE, NONE);
    }

    private static void newObject() {
        promise = 1;
        RestingBlocks x = new RestingBlocks();
        int[] counts = {0, 0, 0, NONE, 0, 0};
        for (int what = 0; what < counts.length; what++) {
            due("count(" + what + ")", x.count(what), counts[what]);
        }
        due("rests()", x.rests(), 1);
        due("undo()", x.undo(), STATE);
        due("back(0)", x.back(0), STATE);
        due("back(1)", x.back(1), STATE);
    }

    private static void type() {
        promise = 2;
        RestingBlocks x = new RestingBlocks();
        due("type(-1)", x.type(-1), BAD);
        due("type(256)", x.type(256), BAD);
        due("type(0)", x.type(0), 1);
        due("type(255)", x.type(255), 2);
        for (int n = 3; n <= 120; n++) {
            due("type(32)", x.type(32), n);
        }
        due("type(32) beyond 120", x.type(32), FULL);
        due("type(256) beyond 120", x.type(256), BAD);
        due("count(4)", x.count(4), 120);
    }

    private static void clear() {
        promise = 3;
        RestingBlocks x = typed(new RestingBlocks(), "b 1 1");
        due("clear()", x.clear(), 5);
        due("clear() again", x.clear(), 0);
        due("count(4)", x.count(4), 0);
        due("type", x.type('b'), 1);
    }

    private static void tells() {
        promise = 4;
        RestingBlocks x = told("b 3 2 5;");
        typed(x, " b0 1 2;b 9 3 9 ;l0 2 20;  l 1 0 0; l 0 1 7 ; ");
        due("tells()", x.tells(), 5);
        sees(x, "0 1 2 7 1 ; 9 3 9 0 0 ;");
        due("count(4)", x.count(4), 0);
        due("count(5)", x.count(5), 2);
        due("tells() of nothing", x.tells(), 0);
        due("count(0)", x.count(0), 0);
        due("count(5)", x.count(5), 3);
        x.undo();
        sees(x, "0 1 2 7 1 ; 9 3 9 0 0 ;");
        typed(x, "   ");
        due("tells() of blanks", x.tells(), 0);
        due("count(0)", x.count(0), 0);
        typed(x, "b 1 1 1;l 0 2 0;");
        due("tells()", x.tells(), 2);
        sees(x, "1 1 1 0 2 ;");
    }

    private static void fault(String letters, int place) {
        RestingBlocks x = typed(told("b 2 1 3;"), letters);
        int was = x.count(5);
        due("tells() of '" + letters + "'", x.tells(), -10 - place);
        due("letters of '" + letters + "'", x.count(4), letters.length());
        due("undoable behind '" + letters + "'", x.count(5), was);
        sees(x, "2 1 3 0 0 ;");
    }

    private static void faults() {
        fault(";", 0);
        fault("  7", 2);
        fault("x", 0);
        fault("B 1 1 1;", 0);
        fault("b 1 1 1;;", 8);
        fault("b1 1 1", 6);
        fault("b1 1 1   ", 9);
        fault("b", 1);
        fault("b ", 2);
        fault("b ;", 2);
        fault("b 10 1 1;", 2);
        fault("b 1 0 1;", 4);
        fault("b 1 4 1;", 4);
        fault("b 1 1 0;", 6);
        fault("b 1 1 10;", 6);
        fault("b 1 1 1 1;", 8);
        fault("b 1 1 1b", 7);
        fault("b 01 1 1;", 2);
        fault("b 00 1 1;", 2);
        fault("b 100 1 1;", 2);
        fault("b 4294967297 1 1;", 2);
        fault("b 18446744073709551617 1 1;", 2);
        fault("b 1x1 1;", 3);
        fault("b 1\t1 1;", 3);
        fault("b -1 1 1;", 2);
        fault("b 1 1 1; b 1 1 1; b 1 1 1; b 1 1 1; b", 36);
        fault("b 1 1 1; b 1 1 1; b 1 1 1; b 1 1 1; b 1 1 1;", 36);
        fault("l", 1);
        fault("l;", 1);
        fault("l 0 0 1;", 2);
        fault("l b", 2);
        fault("b 1 1 1; l 1 0 1;", 11);
        fault("b 1 1 1; l 0 3 1;", 13);
        fault("b 1 1 1; l 0 2 21;", 15);
        fault("b 1 1 1; l 0 2 05;", 15);
        fault("b 1 1 1; l 0 2 5", 16);
        fault("b 1 1 1; l 0 2 5 ;l 1 0 0; b 1 1 1;", 20);
        fault("b 1 1 1; l 0 2;", 14);
        fault("b ; x", 2);
        RestingBlocks x = told("b 1 1 1; b 1 1 1; b 1 1 1; b 1 1 1; l 3 2 20; l 0 0 1;");
        due("count(2)", x.count(2), 25);
    }

    private static void drops() {
        promise = 5;
        RestingBlocks x = new RestingBlocks();
        due("drops(-1, 1, 1)", x.drops(-1, 1, 1), BAD);
        due("drops(10, 1, 1)", x.drops(10, 1, 1), BAD);
        due("drops(0, 0, 1)", x.drops(0, 0, 1), BAD);
        due("drops(0, 4, 1)", x.drops(0, 4, 1), BAD);
        due("drops(0, 1, 0)", x.drops(0, 1, 0), BAD);
        due("drops(0, 1, 10)", x.drops(0, 1, 10), BAD);
        due("count(5)", x.count(5), 0);
        due("drops(0, 1, 1)", x.drops(0, 1, 1), 0);
        due("drops(2, 1, 9), one point in common", x.drops(2, 1, 9), 0);
        due("drops(1, 1, 1)", x.drops(1, 1, 1), 1);
        due("drops(2, 3, 9), does not lie on 1", x.drops(2, 3, 9), 2);
        due("block(3, 6)", x.block(3, 6), 4);
        due("drops(0, 1, 1)", x.drops(0, 1, 1), FULL);
        due("drops(0, 1, 10)", x.drops(0, 1, 10), BAD);
        due("count(5)", x.count(5), 4);
        sees(x, "0 1 1 0 0 ; 2 1 9 0 0 ; 1 1 1 0 0 ; 2 3 9 0 0 ;");
    }

    private static void lifts() {
        promise = 6;
        RestingBlocks x = told("b 0 1 1; b 4 1 2; b 0 2 3; b 8 1 4; l 1 2 5; l 3 1 7;");
        due("lifts(-1)", x.lifts(-1), BAD);
        due("lifts(4)", x.lifts(4), BAD);
        due("lifts(0)", x.lifts(0), STATE);
        due("lifts(1)", x.lifts(1), 3);
        sees(x, "0 1 1 0 0 ; 0 2 3 0 0 ; 8 1 4 7 1 ;");
        due("lifts(1)", x.lifts(1), 2);
        due("lifts(0)", x.lifts(0), 1);
        due("lifts(0)", x.lifts(0), 0);
        due("lifts(0)", x.lifts(0), BAD);
        due("count(5)", x.count(5), 5);
        RestingBlocks again = told("b 0 1 1; l 0 2 9;");
        again.lifts(0);
        again.drops(3, 1, 1);
        sees(again, "3 1 1 0 0 ;");
    }

    private static void weighs() {
        promise = 7;
        RestingBlocks x = told("b 0 1 4;");
        due("weighs(0, 9)", x.weighs(0, 9), 4);
        due("weighs(0, 9)", x.weighs(0, 9), STATE);
        due("weighs(0, 1)", x.weighs(0, 1), 9);
        due("weighs(0, 0)", x.weighs(0, 0), BAD);
        due("weighs(0, 10)", x.weighs(0, 10), BAD);
        due("weighs(1, 5)", x.weighs(1, 5), BAD);
        due("weighs(-1, 5)", x.weighs(-1, 5), BAD);
        due("block(0, 2)", x.block(0, 2), 1);
        due("count(5)", x.count(5), 3);
    }

    private static void loads() {
        promise = 8;
        RestingBlocks x = told("b 0 2 4;");
        due("loads(0, 0, 0)", x.loads(0, 0, 0), STATE);
        due("loads(0, 4, 0)", x.loads(0, 4, 0), 0);
        due("loads(0, 4, 20)", x.loads(0, 4, 20), 0);
        due("loads(0, 0, 20)", x.loads(0, 0, 20), 20);
        due("loads(0, 0, 20)", x.loads(0, 0, 20), STATE);
        due("loads(0, 5, 1)", x.loads(0, 5, 1), BAD);
        due("loads(0, -1, 1)", x.loads(0, -1, 1), BAD);
        due("loads(0, 0, 21)", x.loads(0, 0, 21), BAD);
        due("loads(0, 0, -1)", x.loads(0, 0, -1), BAD);
        due("loads(1, 0, 1)", x.loads(1, 0, 1), BAD);
        due("loads(-1, 0, 1)", x.loads(-1, 0, 1), BAD);
        due("count(5)", x.count(5), 4);
        sees(x, "0 2 4 20 0 ;");
    }

    private static void undo() {
        promise = 9;
        RestingBlocks x = new RestingBlocks();
        x.drops(1, 1, 1);
        for (int w = 2; w <= 8; w++) {
            x.weighs(0, w);
        }
        due("count(5)", x.count(5), 6);
        for (int left = 5; left >= 0; left--) {
            due("undo()", x.undo(), left);
            due("block(0, 2)", x.block(0, 2), left + 2);
        }
        due("undo()", x.undo(), STATE);
        due("block(0, 2)", x.block(0, 2), 2);
        x.loads(0, 1, 5);
        x.lifts(0);
        typed(x, "b 7 1 1;");
        x.tells();
        typed(x, "b 7");
        due("undo() of tells()", x.undo(), 2);
        due("count(0)", x.count(0), 0);
        due("undo() of lifts()", x.undo(), 1);
        sees(x, "1 1 2 5 1 ;");
        due("undo() of loads()", x.undo(), 0);
        sees(x, "1 1 2 0 0 ;");
        due("letters stay", x.count(4), 3);
    }

    private static void block() {
        promise = 10;
        RestingBlocks x = told("b 0 1 2; b 5 1 3; b 1 3 6; l 2 6 4; b 3 2 1;");
        int[][] want = {{0, 1, 2, 0, 0, 0, 0, 4}, {5, 1, 3, 0, 0, 0, 0, 4}, {1, 3, 6, 4, 6, 1, 3, 8}, {3, 2, 1, 0, 0, 2, 4, 0}};
        for (int b = 0; b < 4; b++) {
            for (int what = 0; what < 8; what++) {
                due("block(" + b + ", " + what + ")", x.block(b, what), want[b][what]);
            }
        }
        for (int far : FAR) {
            due("block(" + far + ", 0)", x.block(far, 0), BAD);
            due("block(0, " + far + ")", x.block(0, far), BAD);
        }
        due("block(4, 0)", x.block(4, 0), BAD);
        due("block(0, 8)", x.block(0, 8), BAD);
    }

    private static void contact() {
        promise = 11;
        RestingBlocks x = told("b 0 1 1; b 2 1 1; b 4 1 1; b 1 3 1;");
        int[][] want = {
            {0, NONE, 0}, {0, NONE, 2}, {1, NONE, 2}, {1, NONE, 4}, {2, NONE, 4}, {2, NONE, 6},
            {3, 0, 1}, {3, 0, 2}, {3, 1, 2}, {3, 1, 4}, {3, 2, 4}, {3, 2, 6}};
        due("count(1)", x.count(1), 12);
        for (int c = 0; c < 12; c++) {
            for (int what = 0; what < 3; what++) {
                due("contact(" + c + ", " + what + ")", x.contact(c, what), want[c][what]);
            }
        }
        for (int far : FAR) {
            due("contact(" + far + ", 0)", x.contact(far, 0), BAD);
            due("contact(0, " + far + ")", x.contact(0, far), BAD);
        }
        due("contact(12, 0)", x.contact(12, 0), BAD);
        due("contact(0, 3)", x.contact(0, 3), BAD);
        due("contact(0, 0) of nothing", new RestingBlocks().contact(0, 0), BAD);
    }

    private static void rests() {
        promise = 12;
        due("rests() of nothing", new RestingBlocks().rests(), 1);
        due("on the edge", told("b 3 1 1; b 4 1 1;").rests(), 1);
        due("beyond the edge", told("b 3 1 1; b 4 2 1;").rests(), 0);
        due("held down by a load just so", told("b 2 2 3; b 4 3 2; l 1 0 1;").rests(), 1);
        due("held down from the other side", told("b 0 1 9; b 4 1 9; b 1 2 1; b 4 3 1;").rests(), 0);
        due("a bridge", told("b 0 1 1; b 4 1 1; b 1 2 9;").rests(), 1);
        due("a block below turns over", told("b 0 1 1; b 1 1 1; b 2 1 1;").rests(), 0);
    }

    private static void bounds() {
        promise = 13;
        RestingBlocks x = told("b 0 1 1; b 2 1 1; b 4 1 1; b 0 3 7;");
        long[] inner = {0, 1, 21, 4};
        long[] outer = {0, 1, 7, 2};
        for (int what = 0; what < 4; what++) {
            due("bounds(6, " + what + ")", x.bounds(6, what), outer[what]);
            due("bounds(11, " + what + ")", x.bounds(11, what), outer[what]);
            due("bounds(8, " + what + ")", x.bounds(8, what), inner[what]);
        }
        RestingBlocks y = told("b 0 1 1; b 4 1 1; b 0 3 7; l 2 1 2;");
        long[] first = {0, 1, 31, 6};
        for (int what = 0; what < 4; what++) {
            due("bounds(4, " + what + ")", y.bounds(4, what), first[what]);
        }
        RestingBlocks z = told("b 0 3 1; l 0 1 1;");
        long[] left = {4, 3, 4, 3};
        for (int what = 0; what < 4; what++) {
            due("bounds(0, " + what + ")", z.bounds(0, what), left[what]);
            due("bounds, not at rest", told("b 3 1 1; b 4 2 1;").bounds(0, what), NONE);
            due("bounds(-1, " + what + ")", z.bounds(-1, what), BAD);
            due("bounds(2, " + what + ")", z.bounds(2, what), BAD);
            due("bounds of nothing", new RestingBlocks().bounds(0, what), BAD);
        }
        due("bounds(0, 4)", z.bounds(0, 4), BAD);
        due("bounds(0, -1)", z.bounds(0, -1), BAD);
        due("bounds(0, 4), not at rest", told("b 3 1 1; b 4 2 1;").bounds(0, 4), BAD);
    }

    private static void bears() {
        promise = 14;
        RestingBlocks x = told("b 2 2 3; b 4 3 2;");
        long[] tilted = {1, 1, ENDLESS, ENDLESS};
        RestingBlocks y = told("b 0 2 1; b 1 2 5; l 1 0 1;");
        long[] edge = {0, 1, 8, 1};
        RestingBlocks z = told("b 0 1 1; b 1 1 1;");
        long[] nothing = {0, 1, 0, 1};
        RestingBlocks thirds = told("b 0 2 1; b 0 3 7;");
        long[] fraction = {0, 1, 7, 2};
        for (int what = 0; what < 4; what++) {
            due("bears(1, 0, " + what + ")", x.bears(1, 0, what), tilted[what]);
            due("bears(0, 4, " + what + ")", x.bears(0, 4, what), NONE);
            due("bears(1, 4, " + what + ")", y.bears(1, 4, what), edge[what]);
            due("bears(1, 2, " + what + ")", z.bears(1, 2, what), nothing[what]);
            due("bears(1, 6, " + what + ")", thirds.bears(1, 6, what), fraction[what]);
            due("bears(2, 0, " + what + ")", x.bears(2, 0, what), BAD);
            due("bears(-1, 0, " + what + ")", x.bears(-1, 0, what), BAD);
            due("bears(0, 5, " + what + ")", x.bears(0, 5, what), BAD);
            due("bears(0, -1, " + what + ")", x.bears(0, -1, what), BAD);
        }
        due("bears(0, 0, 4)", x.bears(0, 0, 4), BAD);
        due("bears(0, 0, -1)", x.bears(0, 0, -1), BAD);
        due("count(5): nothing is changed", x.count(5), 1);
        sees(x, "2 2 3 0 0 ; 4 3 2 0 0 ;");
    }

    private static void where() {
        promise = 15;
        RestingBlocks x = new RestingBlocks();
        due("where(3, 9)", x.where(3, 9), 1023);
        x.drops(4, 1, 1);
        due("where(1, 1)", x.where(1, 1), 1023);
        due("where(2, 1)", x.where(2, 1), 1023 - 2 - 32);
        due("where(0, 1)", x.where(0, 1), BAD);
        due("where(4, 1)", x.where(4, 1), BAD);
        due("where(1, 0)", x.where(1, 0), BAD);
        due("where(1, 10)", x.where(1, 10), BAD);
        due("count(0)", x.count(0), 1);
        RestingBlocks four = told("b 0 1 1; b 2 1 1; b 4 1 1; b 6 1 1;");
        due("where(1, 1)", four.where(1, 1), FULL);
        due("where(1, 10)", four.where(1, 10), BAD);
    }

    private static void weights() {
        promise = 16;
        RestingBlocks x = told("b 2 2 3; b 4 3 2; l 1 0 3;");
        due("weights(0)", x.weights(0), 1022);
        due("weights(1)", x.weights(1), 126);
        due("weights(2)", x.weights(2), BAD);
        due("weights(-1)", x.weights(-1), BAD);
        due("block(1, 2)", x.block(1, 2), 2);
        due("weights(1) of none", told("b 2 1 3; b 3 3 2;").weights(1), 0);
    }

    private static void key() {
        promise = 17;
        due("key() of nothing", new RestingBlocks().key(), NONE);
        RestingBlocks x = told("b 8 1 1; b 2 1 5; b 3 2 2; b 2 1 9;");
        due("key()", x.key(), 3);
        x.weighs(3, 2);
        due("key(), just at rest", x.key(), 3);
        x.weighs(3, 1);
        due("key(), no longer at rest", x.key(), NONE);
        due("key() of two", told("b 4 1 9; b 2 3 1; b 2 1 9; b 6 1 9;").key(), 2);
        due("key(): what bears a bridge can't be lifted", told("b 0 1 1; b 4 1 1; b 0 3 9;").key(), NONE);
        due("key() of a tower", told("b 2 1 5; b 2 1 5;").key(), NONE);
        due("key(), not at rest", told("b 3 1 1; b 4 2 1;").key(), NONE);
        due("count(0)", x.count(0), 4);
    }

    private static void hold() {
        promise = 18;
        due("hold() of nothing", new RestingBlocks().hold(), 0);
        due("hold() at rest", told("b 2 1 5; b 2 1 5;").hold(), 0);
        due("hold() of the upper one", told("b 3 1 1; b 4 2 1;").hold(), 2);
        due("hold() of the middle one", told("b 3 1 1; b 4 1 1; b 5 1 1;").hold(), 2);
        due("hold(): one rather than two of lower numbers", told("b 4 1 9; b 1 2 5; b 5 2 5; b 4 1 1;").hold(), 8);
        due("hold() of two", told("b 0 1 1; b 1 3 9; b 8 1 1; b 9 3 9;").hold(), 10);
    }

    private static void keep() {
        promise = 19;
        RestingBlocks x = told("b 0 1 1; b 4 1 1;");
        due("keep(0)", x.keep(0), 2);
        due("keep(-1)", x.keep(-1), BAD);
        due("keep(2)", x.keep(2), BAD);
        due("count(5)", x.count(5), 1);
        x.weighs(0, 5);
        x.lifts(1);
        due("keep(1)", x.keep(1), 1);
        due("back(0)", x.back(0), 2);
        sees(x, "0 1 1 0 0 ; 4 1 1 0 0 ;");
        due("back(1)", x.back(1), 1);
        sees(x, "0 1 5 0 0 ;");
        x.lifts(0);
        due("keep(1) of nothing", x.keep(1), 0);
        x.drops(3, 1, 1);
        due("back(1) to nothing", x.back(1), 0);
        due("count(0)", x.count(0), 0);
    }

    private static void back() {
        promise = 20;
        RestingBlocks x = told("b 0 1 1; l 0 2 3;");
        due("back(0)", x.back(0), STATE);
        due("back(-1)", x.back(-1), BAD);
        due("back(2)", x.back(2), BAD);
        due("count(5)", x.count(5), 1);
        x.keep(0);
        due("back(1)", x.back(1), STATE);
        typed(x, "b 3 1");
        x.drops(3, 3, 3);
        due("back(0)", x.back(0), 1);
        sees(x, "0 1 1 3 2 ;");
        due("undo() behind back()", x.undo(), STATE);
        due("count(5)", x.count(5), 0);
        due("letters stay", x.count(4), 5);
        x.weighs(0, 9);
        due("count(5)", x.count(5), 1);
        typed(x, " 2;");
        due("tells()", x.tells(), 1);
        due("back(0): images stay", x.back(0), 1);
        sees(x, "0 1 1 3 2 ;");
    }

    private static void count() {
        promise = 21;
        RestingBlocks x = told("b 0 1 2; b 1 1 3; b 2 1 4; l 1 0 20; l 0 1 1;");
        x.type('b');
        int[] counts = {3, 6, 30, 2, 1, 1};
        for (int what = 0; what < counts.length; what++) {
            due("count(" + what + ")", x.count(what), counts[what]);
        }
        due("count(6)", x.count(6), BAD);
        for (int far : FAR) {
            due("count(" + far + ")", x.count(far), BAD);
        }
    }

    /** BAD comes ahead of STATE and FULL, and nothing changes by what is refused. */
    private static void refusedInOrder() {
        RestingBlocks x = told("b 0 1 1; b 0 1 1; b 0 1 1; b 0 1 1; l 3 1 2;");
        String was = seen(x);
        for (int far : FAR) {
            due("drops", x.drops(far, 1, 1), BAD);
            due("drops", x.drops(0, far, 1), BAD);
            due("drops", x.drops(0, 1, far), BAD);
            due("lifts", x.lifts(far), BAD);
            due("weighs", x.weighs(far, 1), BAD);
            due("weighs", x.weighs(0, far), BAD);
            due("loads", x.loads(far, 1, 2), BAD);
            due("loads", x.loads(3, far, 2), BAD);
            due("loads", x.loads(3, 1, far), BAD);
            due("bounds", x.bounds(far, 0), BAD);
            due("bounds", x.bounds(0, far), BAD);
            due("bears", x.bears(far, 0, 0), BAD);
            due("bears", x.bears(0, far, 0), BAD);
            due("bears", x.bears(0, 0, far), BAD);
            due("where", x.where(far, 1), BAD);
            due("where", x.where(1, far), BAD);
            due("weights", x.weights(far), BAD);
            due("keep", x.keep(far), BAD);
            due("back", x.back(far), BAD);
            due("type", x.type(far), BAD);
        }
        sees(x, was);
        due("count(5)", x.count(5), 1);
        due("count(4)", x.count(4), 0);
    }
}
