import java.util.Random;

/** Full: 4 BLOCKS, 120 letters, 6 that can be UNDONE and a seventh, 12 CONTACTS, 512 calls. */
public final class FullTest {
    private static final Check check = new Check("FullTest");

    public static void main(String[] args) {
        letters();
        longestTexts();
        blocks();
        sevenUndone();
        contacts();
        calls();
        wildCalls();
        check.end();
    }

    private static void letters() {
        check.sentence("type: how many it has. FULL: 120");
        RestingBlocks x = new RestingBlocks();
        for (int n = 1; n <= 120; n++) {
            check.due("type(32)", x.type(32), n);
        }
        check.due("type(32)", x.type(32), Check.FULL);
        check.due("type(0)", x.type(0), Check.FULL);
        check.due("type(255)", x.type(255), Check.FULL);
        check.due("count(4)", x.count(4), 120);
        check.due("clear()", x.clear(), 120);
        check.due("type(98)", x.type(98), 1);
        check.due("tells(): none of the old letters", x.tells(), -11);
    }

    private static void longestTexts() {
        check.sentence("120 letters at most: told to the last one");
        StringBuilder text = new StringBuilder("b0 1 1;b9 3 9;b0 1 1;b2 1 1;");
        for (int i = 0; i < 12; i++) {
            text.append("l3 0 ").append(i % 10).append(';');
        }
        text.append("l1 6 20;");
        check.due("letters", text.length(), 120);
        RestingBlocks x = Check.typed(new RestingBlocks(), text.toString());
        check.due("count(4)", x.count(4), 120);
        check.due("tells() of 17 items", x.tells(), 17);
        check.due("blocks", Check.blocks(x), "0 1 1 0 0 ; 9 3 9 20 6 ; 0 1 1 0 0 ; 2 1 1 1 0 ;");
        check.due("count(4)", x.count(4), 0);
        check.due("type(98)", x.type(98), 1);
        check.sentence("the text's length, if it ends too early");
        Check.typed(x, " ".repeat(130));
        check.due("tells() of 120 letters", x.tells(), -130);
        check.due("count(4)", x.count(4), 120);
        RestingBlocks y = Check.typed(new RestingBlocks(), " ".repeat(112) + "b 1 1 1;");
        check.due("tells(), the item last", y.tells(), 1);
        Check.typed(y, " ".repeat(113) + "b 1 1 1;");
        check.due("tells(), its end not typed", y.tells(), -130);
        y.clear();
        Check.typed(y, " ".repeat(119) + ";");
        check.due("tells(), the last letter", y.tells(), -129);
        y.clear();
        Check.typed(y, "b" + "9".repeat(119));
        check.due("tells(), a NUMBER of 119 figures", y.tells(), -11);
    }

    private static void blocks() {
        check.sentence("drops, where: FULL: 4");
        RestingBlocks x = new RestingBlocks();
        for (int b = 0; b < 4; b++) {
            check.due("where(1, 1)", x.where(1, 1), 1023);
            check.due("drops(" + 2 * b + ", 1, 1)", x.drops(2 * b, 1, 1), 0);
        }
        check.due("drops(8, 1, 1)", x.drops(8, 1, 1), Check.FULL);
        check.due("where(1, 1)", x.where(1, 1), Check.FULL);
        check.due("where(3, 9)", x.where(3, 9), Check.FULL);
        check.due("lifts(0)", x.lifts(0), 3);
        check.due("where(1, 1)", x.where(1, 1), 1023);
        check.due("drops(8, 1, 1)", x.drops(8, 1, 1), 0);
        check.due("drops(8, 1, 1)", x.drops(8, 1, 1), Check.FULL);
        check.due("undo()", x.undo(), 5);
        check.due("undo()", x.undo(), 4);
        check.due("drops(8, 1, 1), full again by undo()", x.drops(8, 1, 1), Check.FULL);
        check.due("keep(0)", x.keep(0), 4);
        check.due("lifts(3)", x.lifts(3), 3);
        check.due("back(0)", x.back(0), 4);
        check.due("drops(8, 1, 1), full again by back()", x.drops(8, 1, 1), Check.FULL);
        check.sentence("BLOCKS told anew: these alone are there");
        Check.typed(x, "b 0 1 1;b 0 1 2;b 0 1 3;b 0 1 4;");
        check.due("tells() of four, where four are", x.tells(), 4);
        check.due("count(0)", x.count(0), 4);
        check.due("count(3)", x.count(3), 3);
        check.due("where(1, 1), full by tells()", x.where(1, 1), Check.FULL);
    }

    private static void sevenUndone() {
        check.sentence("6 are known, older ones are lost");
        for (int deeds = 1; deeds <= 15; deeds++) {
            RestingBlocks x = check.told("b 3 1 1;");
            x.keep(0);
            x.back(0);
            for (int i = 1; i <= deeds; i++) {
                check.due("loads(0, 0, " + i + ")", x.loads(0, 0, i), i - 1);
                check.due("count(5)", x.count(5), Math.min(i, 6));
            }
            int known = Math.min(deeds, 6);
            for (int i = 1; i <= known; i++) {
                check.due("undo() of " + deeds, x.undo(), known - i);
                check.due("block(0, 3)", x.block(0, 3), deeds - i);
            }
            check.due("undo() of none", x.undo(), Check.STATE);
            check.due("block(0, 3)", x.block(0, 3), deeds - known);
        }
        check.sentence("6 are known: what is done behind undo() takes the place of what was UNDONE");
        RestingBlocks x = check.told("b 3 1 1;");
        for (int i = 1; i <= 6; i++) {
            x.loads(0, 0, i);
        }
        x.undo();
        x.undo();
        x.weighs(0, 7);
        check.due("count(5)", x.count(5), 5);
        x.weighs(0, 8);
        x.weighs(0, 9);
        int[] loads = {4, 4, 4, 3, 2, 1};
        int[] weights = {8, 7, 1, 1, 1, 1};
        for (int i = 0; i < 6; i++) {
            check.due("undo()", x.undo(), 5 - i);
            check.due("block(0, 2)", x.block(0, 2), weights[i]);
            check.due("block(0, 3)", x.block(0, 3), loads[i]);
        }
        check.due("undo()", x.undo(), Check.STATE);
    }

    private static void contacts() {
        check.sentence("CONTACTS are numbered from 0: 12 are the most that 4 BLOCKS can have");
        RestingBlocks x = check.told("b 1 1 1; b 3 1 1; b 5 1 1; b 1 3 9;");
        check.due("count(1)", x.count(1), 12);
        int[] places = {1, 3, 3, 5, 5, 7, 1, 3, 3, 5, 5, 7};
        for (int c = 0; c < 12; c++) {
            check.due("contact(" + c + ", 0)", x.contact(c, 0), c < 6 ? c / 2 : 3);
            check.due("contact(" + c + ", 1)", x.contact(c, 1), c < 6 ? Check.NONE : c / 2 - 3);
            check.due("contact(" + c + ", 2)", x.contact(c, 2), places[c]);
        }
        check.due("contact(12, 0)", x.contact(12, 0), Check.BAD);
        check.due("bounds(11)", Check.bounds(x, 11), 0, 1, 9, 2);
        check.due("bounds(12, 0)", x.bounds(12, 0), Check.BAD);
        check.due("bears(3, 6), with 12 contacts", Check.bears(x, 3, 6), 0, 1, Check.ENDLESS, Check.ENDLESS);
        check.due("count(1) behind bears()", x.count(1), 12);
    }

    private static void calls() {
        check.sentence("An object is used for at most 512 calls");
        RestingBlocks x = new RestingBlocks();
        for (int i = 1; i <= 510; i++) {
            int n = i % 2;
            check.due("call " + i, n == 1 ? x.drops(3, 1, 4) : x.lifts(0), 0);
        }
        check.due("call 511", x.drops(3, 2, 9), 0);
        check.due("call 512", x.bounds(1, 1), 2);
        Random random = new Random(512);
        RestingBlocks mine = new RestingBlocks();
        Model model = new Model();
        for (int i = 1; i <= 511; i++) {
            int b = random.nextInt(4);
            int n = random.nextInt(10);
            check.due("call " + i, mine.loads(b, n, n), model.loads(b, n, n));
            i++;
            check.due("call " + i, mine.drops(n, 1 + b % 3, 1 + n), model.drops(n, 1 + b % 3, 1 + n));
            i++;
            check.due("call " + i, i % 2 == 0 ? mine.lifts(b) : mine.undo(), i % 2 == 0 ? model.lifts(b) : model.undo());
            i++;
            check.due("call " + i, mine.hold(), model.hold());
        }
    }

    /** Rule 7 of LANGUAGE.md, behind 512 calls, too; the machine itself would end the test by what it throws. */
    private static void wildCalls() {
        check.sentence("No call may ever throw or fail to end, for any arguments in any state");
        Random random = new Random(7);
        int[] far = {Integer.MIN_VALUE, Integer.MAX_VALUE, -1, 1 << 30, 858_993_459, 429_496_730, -858_993_460};
        for (int run = 0; run < 40; run++) {
            RestingBlocks x = new RestingBlocks();
            for (int call = 0; call < 700; call++) {
                int[] n = new int[3];
                for (int i = 0; i < 3; i++) {
                    n[i] = random.nextInt(9) == 0 ? far[random.nextInt(far.length)] : random.nextInt(5);
                }
                int kind = random.nextInt(20);
                long got = wild(x, kind, n);
                if (call < 512 && got < -9 && kind != 2) {
                    check.fail("a call of kind " + kind + " answered " + got);
                }
            }
        }
    }

    private static long wild(RestingBlocks x, int kind, int[] n) {
        return switch (kind) {
            case 0 -> x.type("bl; 0123".charAt(n[0] & 7));
            case 1 -> n[0] == 1 ? x.clear() : x.type(n[0]);
            case 2 -> x.tells();
            case 3, 4 -> x.drops(n[0], n[1], n[2]);
            case 5 -> x.lifts(n[0]);
            case 6 -> x.weighs(n[0], n[1]);
            case 7 -> x.loads(n[0], n[1], n[2]);
            case 8 -> x.undo();
            case 9 -> x.block(n[0], n[1]);
            case 10 -> x.contact(n[0], n[1]);
            case 11 -> x.rests();
            case 12 -> x.bounds(n[0], n[1]);
            case 13 -> x.bears(n[0], n[1], n[2]);
            case 14 -> x.where(n[0], n[1]);
            case 15 -> x.weights(n[0]);
            case 16 -> x.key();
            case 17 -> x.hold();
            case 18 -> n[0] == 0 ? x.keep(n[1]) : x.count(n[1]);
            default -> n[0] == 0 ? x.back(n[1]) : x.count(n[1]);
        };
    }
}
