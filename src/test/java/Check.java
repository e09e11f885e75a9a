/** What the tests of boundary cases share: answers that are due, objects made ready, all that can be seen of one. */
final class Check {
    static final int BAD = -1, STATE = -2, FULL = -3, ENDLESS = -5, NONE = -9;

    /** One call, or a run of calls, on an object. */
    interface Deed {
        long on(RestingBlocks x);
    }

    private final String test;
    private String sentence = "";
    private int wrong = 0;
    private int looked = 0;

    Check(String test) {
        this.test = test;
    }

    /** The document's words that the answers from here on are due by. */
    void sentence(String words) {
        sentence = words;
    }

    void due(String call, long got, long want) {
        looked++;
        if (got != want) {
            fail(call + " answered " + got + ", due is " + want);
        }
    }

    void due(String what, String got, String want) {
        looked++;
        if (!got.trim().equals(want.trim())) {
            fail(what + ": " + got + ", due is " + want);
        }
    }

    /** The four numbers of bounds() or bears() one behind the other. */
    void due(String call, long[] got, long... want) {
        for (int what = 0; what < want.length; what++) {
            due(call + ", what = " + what, got[what], want[what]);
        }
    }

    void fail(String fault) {
        wrong++;
        System.out.println(test + ", '" + sentence + "': " + fault);
    }

    void end() {
        System.out.println(test + ": " + (wrong == 0 ? looked + " answers as due" : wrong + " wrong"));
        if (wrong != 0) {
            System.exit(1);
        }
    }

    static RestingBlocks typed(RestingBlocks x, String letters) {
        for (int i = 0; i < letters.length(); i++) {
            x.type(letters.charAt(i));
        }
        return x;
    }

    /** A new object with the blocks that a text tells. */
    RestingBlocks told(String letters) {
        RestingBlocks x = typed(new RestingBlocks(), letters);
        if (x.tells() < 0) {
            fail("can't be told: " + letters);
        }
        return x;
    }

    static long[] bounds(RestingBlocks x, int c) {
        return new long[] {x.bounds(c, 0), x.bounds(c, 1), x.bounds(c, 2), x.bounds(c, 3)};
    }

    static long[] bears(RestingBlocks x, int b, int spot) {
        return new long[] {x.bears(b, spot, 0), x.bears(b, spot, 1), x.bears(b, spot, 2), x.bears(b, spot, 3)};
    }

    /** LEFT, HALF, WEIGHT, LOAD, SPOT of each block. */
    static String blocks(RestingBlocks x) {
        StringBuilder all = new StringBuilder();
        int size = x.count(0);
        for (int b = 0; b < size; b++) {
            for (int what = 0; what < 5; what++) {
                all.append(x.block(b, what)).append(' ');
            }
            all.append("; ");
        }
        return all.toString();
    }

    /** What every question is answered; nothing is changed by it. Some 170 calls. */
    static String asked(RestingBlocks x) {
        StringBuilder all = new StringBuilder(blocks(x));
        for (int what = 0; what < 6; what++) {
            all.append(" count ").append(x.count(what));
        }
        all.append(" rests ").append(x.rests()).append(" key ").append(x.key()).append(" hold ").append(x.hold());
        for (int b = 0; b < x.count(0); b++) {
            all.append(" block ").append(x.block(b, 5)).append(' ').append(x.block(b, 6)).append(' ').append(x.block(b, 7));
            all.append(" weights ").append(x.weights(b)).append(" bears");
            for (int what = 0; what < 4; what++) {
                all.append(' ').append(x.bears(b, 0, what)).append(' ').append(x.bears(b, 2, what));
            }
        }
        for (int c = 0; c < x.count(1); c++) {
            all.append(" contact ").append(x.contact(c, 0)).append(' ').append(x.contact(c, 1)).append(' ').append(x.contact(c, 2));
            all.append(" bounds ").append(x.bounds(c, 0)).append(' ').append(x.bounds(c, 2));
        }
        return all.append(" where ").append(x.where(1, 1)).append(' ').append(x.where(3, 9)).toString();
    }

    /** Asked, then what can be undone, what the text tells, and the images: the object is used up by it. */
    static String drained(RestingBlocks x) {
        StringBuilder all = new StringBuilder(asked(x));
        for (int i = 0; i < 8; i++) {
            int left = x.undo();
            all.append(" undo ").append(left).append(": ").append(left < 0 ? "" : blocks(x));
        }
        all.append(" tells ").append(x.tells()).append(": ").append(blocks(x)).append(" letters ").append(x.count(4));
        for (int image = 0; image < 2; image++) {
            all.append(" back ").append(x.back(image)).append(": ").append(blocks(x));
        }
        return all.toString();
    }
}
