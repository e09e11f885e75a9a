import java.util.Random;

/**
 * Each question against the deed that it asks about, by the public face alone: what would be, were it done, is
 * what is, when it is done. So a wrong answer is seen even where the Model would err with the program.
 */
public final class AgreeTest {
    private static final Check check = new Check("AgreeTest");
    private static final int RUNS = 1500;

    public static void main(String[] args) {
        for (int seed = 0; seed < RUNS; seed++) {
            Random random = new Random(seed);
            where(drawn(random, 3), random);
            weights(drawn(random, 4));
            key(drawn(random, 4));
            bears(drawn(random, 4), random);
            atRestOrNot(drawn(random, 4));
            bounds(drawn(random, 4));
            mirrored(random);
        }
        check.end();
    }

    /** One to so many blocks, near one another, so that some tilt and some do not; some loaded. */
    private static RestingBlocks drawn(Random random, int most) {
        RestingBlocks x = new RestingBlocks();
        int blocks = 1 + random.nextInt(most);
        for (int b = 0; b < blocks; b++) {
            x.drops(random.nextInt(8), 1 + random.nextInt(3), 1 + random.nextInt(9));
        }
        for (int b = 0; b < blocks; b++) {
            if (random.nextInt(3) == 0) {
                x.loads(b, random.nextInt(2 * x.block(b, 1) + 1), 1 + random.nextInt(12));
            }
        }
        return x;
    }

    private static void where(RestingBlocks x, Random random) {
        check.sentence("DROPS: were a BLOCK DROPPED with LEFT X, all would REST");
        int half = 1 + random.nextInt(3);
        int weight = 1 + random.nextInt(9);
        int bits = 0;
        for (int left = 0; left <= 9; left++) {
            x.drops(left, half, weight);
            bits |= x.rests() << left;
            x.undo();
        }
        check.due("where(" + half + ", " + weight + ") of " + Check.blocks(x), x.where(half, weight), bits);
    }

    private static void weights(RestingBlocks x) {
        check.sentence("WEIGHTS: were that its WEIGHT, all would REST");
        for (int b = 0; b < x.count(0); b++) {
            int bits = 0;
            for (int weight = 1; weight <= 9; weight++) {
                boolean other = x.weighs(b, weight) != Check.STATE;
                bits |= x.rests() << weight;
                if (other) {
                    x.undo();
                }
            }
            check.due("weights(" + b + ") of " + Check.blocks(x), x.weights(b), bits);
        }
    }

    private static void key(RestingBlocks x) {
        check.sentence("KEY: the lowest that, were it LIFTED, would leave what does not REST");
        int key = Check.NONE;
        int size = x.count(0);
        for (int b = size - 1; b >= 0 && x.rests() == 1; b--) {
            if (x.lifts(b) != Check.STATE) {
                key = x.rests() == 0 ? b : key;
                x.undo();
            }
        }
        check.due("key() of " + Check.blocks(x), x.key(), key);
    }

    private static void bears(RestingBlocks x, Random random) {
        check.sentence("MAY BEAR: all numbers w by which it RESTS, if w is LOAD there besides");
        int b = random.nextInt(x.count(0));
        int spot = random.nextInt(2 * x.block(b, 1) + 1);
        int own = random.nextInt(10);
        x.loads(b, spot, own);
        long[] may = Check.bears(x, b, spot);
        // Asked once: the document promises 512 calls, and to ask it for each w would be more.
        String blocks = Check.blocks(x);
        for (int w = 0; own + w <= 20; w++) {
            boolean other = x.loads(b, spot, own + w) != Check.STATE;
            boolean any = may[0] != Check.NONE;
            boolean within = any && w * may[1] >= may[0] && (may[2] == Check.ENDLESS || w * may[3] <= may[2]);
            check.due("a load of " + w + " beside, block " + b + " of " + blocks, x.rests(), within ? 1 : 0);
            if (other) {
                x.undo();
            }
        }
        for (int what = 1; what < 4 && may[0] == Check.NONE; what++) {
            check.due("NONE, if there is none", may[what], Check.NONE);
        }
    }

    private static void atRestOrNot(RestingBlocks x) {
        check.sentence("RESTS: what BOUNDS, MAY BEAR, HOLD, WEIGHTS say of it");
        String blocks = Check.blocks(x);
        boolean rests = x.rests() == 1;
        int hold = x.hold();
        check.due("hold() is 0, of " + blocks, hold == 0 ? 1 : 0, rests ? 1 : 0);
        check.due("hold() has blocks alone that are there, of " + blocks, hold >> x.count(0), 0);
        for (int c = 0; c < x.count(1); c++) {
            check.due("bounds(" + c + ") are, of " + blocks, x.bounds(c, 3) != Check.NONE ? 1 : 0, rests ? 1 : 0);
        }
        for (int b = 0; b < x.count(0); b++) {
            check.due("weights(" + b + ") of " + blocks, x.weights(b) >> x.block(b, 2) & 1, rests ? 1 : 0);
            check.due("bears(" + b + ", 1, 0) of " + blocks, x.bears(b, 1, 0) == 0 ? 1 : 0, rests ? 1 : 0);
        }
    }

    private static void bounds(RestingBlocks x) {
        check.sentence("BOUNDS: the least, the greatest; in least terms; PUSHES of the GROUND bear all");
        if (x.rests() == 0) {
            return;
        }
        double least = 0;
        double greatest = 0;
        for (int c = 0; c < x.count(1); c++) {
            long[] may = Check.bounds(x, c);
            String which = "bounds(" + c + ") of " + Check.blocks(x);
            check.due(which + ", none below 0, least first", may[0] >= 0 && may[0] * may[3] <= may[2] * may[1] ? 1 : 0, 1);
            check.due(which + ", least in least terms", common(may[0], may[1]), 1);
            check.due(which + ", greatest in least terms", common(may[2], may[3]), 1);
            if (x.contact(c, 1) == Check.NONE) {
                least += (double) may[0] / may[1];
                greatest += (double) may[2] / may[3];
            }
        }
        boolean bear = least < x.count(2) + 1e-9 && greatest > x.count(2) - 1e-9;
        check.due("the GROUND bears " + Check.blocks(x), bear ? 1 : 0, 1);
    }

    private static long common(long a, long b) {
        return b == 0 ? a : common(b, a % b);
    }

    /** All spans within 0 and 10, so that what is seen from behind has lefts from 0 to 9, too. */
    private static void mirrored(Random random) {
        check.sentence("RESTS, HOLD, KEY, BOUNDS are the same seen from behind");
        RestingBlocks x = new RestingBlocks();
        RestingBlocks y = new RestingBlocks();
        for (int b = 0; b < 4; b++) {
            int half = 1 + random.nextInt(3);
            int left = random.nextInt(11 - 2 * half);
            int weight = 1 + random.nextInt(9);
            int spot = random.nextInt(2 * half + 1);
            int load = random.nextInt(2) * random.nextInt(21);
            // A mirror at 5: what lies from left to right lies from 10 - right to 10 - left then.
            int other = 10 - left - 2 * half;
            check.due("drops", x.drops(left, half, weight), y.drops(other, half, weight));
            x.loads(b, spot, load);
            y.loads(b, 2 * half - spot, load);
        }
        String blocks = Check.blocks(x);
        check.due("rests() of " + blocks, y.rests(), x.rests());
        check.due("hold() of " + blocks, y.hold(), x.hold());
        check.due("key() of " + blocks, y.key(), x.key());
        for (int c = 0; c < x.count(1); c += 2) {
            check.due("bounds(" + c + ") of " + blocks, Check.bounds(y, c + 1), Check.bounds(x, c));
            check.due("bounds(" + (c + 1) + ") of " + blocks, Check.bounds(y, c), Check.bounds(x, c + 1));
        }
        for (int b = 0; b < 4; b++) {
            int spot = random.nextInt(2 * x.block(b, 1) + 1);
            long[] want = Check.bears(x, b, spot);
            check.due("bears(" + b + ") of " + blocks, Check.bears(y, b, 2 * x.block(b, 1) - spot), want);
            check.due("weights(" + b + ") of " + blocks, y.weights(b), x.weights(b));
        }
    }
}
