import java.util.ArrayDeque;
import java.util.ArrayList;
import java.util.Deque;
import java.util.List;
import java.util.regex.Matcher;
import java.util.regex.Pattern;

/**
 * The document once more, written another way than the program: lists instead of arrays, a regular
 * expression for tokens, and all corners of the set of pushes instead of the simplex method.
 */
final class Model {
    static final int BAD = -1, STATE = -2, FULL = -3, NONE = -9, ENDLESS = -5;
    private static final Pattern TOKEN = Pattern.compile("[0-9]+|[^ ]", Pattern.DOTALL);

    record Block(int left, int half, int weight, int load, int spot) {
        int right() {
            return left + 2 * half;
        }

        boolean overlaps(Block o) {
            return Math.min(right(), o.right()) - Math.max(left, o.left) > 0;
        }
    }

    record Contact(int upper, int lower, int x) {
    }

    private List<Block> blocks = List.of();
    private final Deque<List<Block>> past = new ArrayDeque<>();
    private final List<List<Block>> images = new ArrayList<>();
    private String text = "";

    Model() {
        images.add(null);
        images.add(null);
    }

    // ---- what is told and done

    int type(int letter) {
        if (letter < 0 || letter > 255) {
            return BAD;
        }
        if (text.length() == 120) {
            return FULL;
        }
        text += (char) letter;
        return text.length();
    }

    int clear() {
        int had = text.length();
        text = "";
        return had;
    }

    int tells() {
        List<Block> told = new ArrayList<>();
        Matcher tokens = TOKEN.matcher(text);
        int items = 0;
        int stage = 0; // 0: an item begins; 1 to 3: its numbers; 4: its end
        boolean load = false;
        int[] n = new int[4];
        while (tokens.find()) {
            String token = tokens.group();
            int fault = -10 - tokens.start();
            if (stage == 0) {
                load = token.equals("l");
                if (!load && !(token.equals("b") && told.size() < 4)) {
                    return fault;
                }
            } else if (stage == 4) {
                if (!token.equals(";")) {
                    return fault;
                }
                if (load) {
                    Block o = told.get(n[1]);
                    told.set(n[1], new Block(o.left, o.half, o.weight, n[3], n[2]));
                } else {
                    told.add(new Block(n[1], n[2], n[3], 0, 0));
                }
                items++;
            } else {
                if (!token.matches("0|[1-9][0-9]?")) {
                    return fault;
                }
                n[stage] = Integer.parseInt(token);
                int least = load || stage == 1 ? 0 : 1;
                int most;
                if (load) {
                    most = stage == 1 ? told.size() - 1 : stage == 2 ? 2 * told.get(n[1]).half : 20;
                } else {
                    most = stage == 2 ? 3 : 9;
                }
                if (n[stage] < least || n[stage] > most) {
                    return fault;
                }
            }
            stage = (stage + 1) % 5;
        }
        if (stage != 0) {
            return -10 - text.length();
        }
        become(told);
        text = "";
        return items;
    }

    private void become(List<Block> next) {
        past.addLast(blocks);
        if (past.size() > 6) {
            past.removeFirst();
        }
        blocks = List.copyOf(next);
    }

    private boolean has(int b) {
        return b >= 0 && b < blocks.size();
    }

    private static boolean in(int n, int least, int most) {
        return n >= least && n <= most;
    }

    private static List<Block> with(List<Block> row, Block more) {
        List<Block> next = new ArrayList<>(row);
        next.add(more);
        return next;
    }

    private static List<Block> without(List<Block> row, int b) {
        List<Block> next = new ArrayList<>(row);
        next.remove(b);
        return next;
    }

    private static List<Block> changed(List<Block> row, int b, Block other) {
        List<Block> next = new ArrayList<>(row);
        next.set(b, other);
        return next;
    }

    int drops(int left, int half, int weight) {
        if (!in(left, 0, 9) || !in(half, 1, 3) || !in(weight, 1, 9)) {
            return BAD;
        }
        if (blocks.size() == 4) {
            return FULL;
        }
        become(with(blocks, new Block(left, half, weight, 0, 0)));
        return level(blocks, blocks.size() - 1);
    }

    int lifts(int b) {
        if (!has(b)) {
            return BAD;
        }
        if (above(blocks, b) != 0) {
            return STATE;
        }
        become(without(blocks, b));
        return blocks.size();
    }

    int weighs(int b, int weight) {
        if (!has(b) || !in(weight, 1, 9)) {
            return BAD;
        }
        Block o = blocks.get(b);
        if (o.weight == weight) {
            return STATE;
        }
        become(changed(blocks, b, new Block(o.left, o.half, weight, o.load, o.spot)));
        return o.weight;
    }

    int loads(int b, int spot, int load) {
        if (!has(b) || !in(spot, 0, 2 * blocks.get(b).half) || !in(load, 0, 20)) {
            return BAD;
        }
        Block o = blocks.get(b);
        if (o.load == load && o.spot == spot) {
            return STATE;
        }
        become(changed(blocks, b, new Block(o.left, o.half, o.weight, load, spot)));
        return o.load;
    }

    int undo() {
        if (past.isEmpty()) {
            return STATE;
        }
        blocks = past.removeLast();
        return past.size();
    }

    // ---- how they lie

    private static int level(List<Block> row, int b) {
        int level = 0;
        for (int a = b - 1; a >= 0; a--) {
            if (row.get(a).overlaps(row.get(b))) {
                level = Math.max(level, 1 + level(row, a));
            }
        }
        return level;
    }

    private static boolean lies(List<Block> row, int b, int a) {
        return a < b && row.get(a).overlaps(row.get(b)) && level(row, a) + 1 == level(row, b);
    }

    private static int below(List<Block> row, int b) {
        int bits = 0;
        for (int a = 0; a < row.size(); a++) {
            bits += lies(row, b, a) ? 1 << a : 0;
        }
        return bits;
    }

    private static int above(List<Block> row, int b) {
        int bits = 0;
        for (int a = 0; a < row.size(); a++) {
            bits += lies(row, a, b) ? 1 << a : 0;
        }
        return bits;
    }

    private static List<Contact> contacts(List<Block> row) {
        List<Contact> all = new ArrayList<>();
        for (int b = 0; b < row.size(); b++) {
            Block o = row.get(b);
            if (level(row, b) == 0) {
                all.add(new Contact(b, NONE, o.left));
                all.add(new Contact(b, NONE, o.right()));
            }
            for (int a = 0; a < b; a++) {
                if (lies(row, b, a)) {
                    all.add(new Contact(b, a, Math.max(o.left, row.get(a).left)));
                    all.add(new Contact(b, a, Math.min(o.right(), row.get(a).right())));
                }
            }
        }
        return all;
    }

    int block(int b, int what) {
        if (!has(b) || !in(what, 0, 7)) {
            return BAD;
        }
        Block o = blocks.get(b);
        int[] all = {o.left, o.half, o.weight, o.load, o.spot, level(blocks, b), below(blocks, b), above(blocks, b)};
        return all[what];
    }

    int contact(int c, int what) {
        List<Contact> all = contacts(blocks);
        if (!in(c, 0, all.size() - 1) || !in(what, 0, 2)) {
            return BAD;
        }
        Contact o = all.get(c);
        return what == 0 ? o.upper : what == 1 ? o.lower : o.x;
    }

    // ---- pushes

    /** Rows of equations, the last number of each being what it must come to; distances from x = 0. */
    private static long[][] equations(List<Block> row, int held, int loaded, int spot) {
        List<Contact> all = contacts(row);
        int unknowns = all.size() + (loaded >= 0 ? 1 : 0);
        List<long[]> rows = new ArrayList<>();
        for (int b = 0; b < row.size(); b++) {
            if ((held >> b & 1) == 1) {
                continue;
            }
            Block o = row.get(b);
            long[] sum = new long[unknowns + 1];
            long[] turn = new long[unknowns + 1];
            for (int c = 0; c < all.size(); c++) {
                int sign = all.get(c).upper == b ? 1 : all.get(c).lower == b ? -1 : 0;
                sum[c] = sign;
                turn[c] = sign * all.get(c).x;
            }
            if (loaded == b) {
                sum[unknowns - 1] = -1;
                turn[unknowns - 1] = -(o.left + spot);
            }
            sum[unknowns] = o.weight + o.load;
            turn[unknowns] = o.weight * (o.left + o.half) + o.load * (o.left + o.spot);
            rows.add(sum);
            rows.add(turn);
        }
        return rows.toArray(new long[0][]);
    }

    private static boolean atRest(List<Block> row, int held) {
        return new Corners(equations(row, held, -1, 0)).any();
    }

    int rests() {
        return atRest(blocks, 0) ? 1 : 0;
    }

    long bounds(int c, int what) {
        if (!in(c, 0, contacts(blocks).size() - 1) || !in(what, 0, 3)) {
            return BAD;
        }
        Corners corners = new Corners(equations(blocks, 0, -1, 0));
        return corners.any() ? corners.extreme(c, what) : NONE;
    }

    long bears(int b, int spot, int what) {
        if (!has(b) || !in(spot, 0, 2 * blocks.get(b).half) || !in(what, 0, 3)) {
            return BAD;
        }
        long[][] rows = equations(blocks, 0, b, spot);
        Corners corners = new Corners(rows);
        if (!corners.any()) {
            return NONE;
        }
        if (what >= 2 && endless(rows)) {
            return ENDLESS;
        }
        return corners.extreme(contacts(blocks).size(), what);
    }

    /** Whether the pushes can carry a load of 1 by itself, as if nothing had a weight. */
    private static boolean endless(long[][] rows) {
        long[][] bare = new long[rows.length][];
        for (int i = 0; i < rows.length; i++) {
            int load = rows[i].length - 2;
            bare[i] = java.util.Arrays.copyOf(rows[i], load + 1);
            bare[i][load] = -rows[i][load];
        }
        return new Corners(bare).any();
    }

    int where(int half, int weight) {
        if (!in(half, 1, 3) || !in(weight, 1, 9)) {
            return BAD;
        }
        if (blocks.size() == 4) {
            return FULL;
        }
        int bits = 0;
        for (int x = 0; x < 10; x++) {
            bits += atRest(with(blocks, new Block(x, half, weight, 0, 0)), 0) ? 1 << x : 0;
        }
        return bits;
    }

    int weights(int b) {
        if (!has(b)) {
            return BAD;
        }
        Block o = blocks.get(b);
        int bits = 0;
        for (int w = 1; w < 10; w++) {
            bits += atRest(changed(blocks, b, new Block(o.left, o.half, w, o.load, o.spot)), 0) ? 1 << w : 0;
        }
        return bits;
    }

    int key() {
        for (int b = 0; b < blocks.size() && rests() == 1; b++) {
            if (above(blocks, b) == 0 && !atRest(without(blocks, b), 0)) {
                return b;
            }
        }
        return NONE;
    }

    int hold() {
        int best = -1;
        for (int held = 0; held < 1 << blocks.size(); held++) {
            boolean fewer = best < 0 || Integer.bitCount(held) < Integer.bitCount(best);
            if (fewer && atRest(blocks, held)) {
                best = held;
            }
        }
        return best;
    }

    // ---- images

    int keep(int image) {
        if (!in(image, 0, 1)) {
            return BAD;
        }
        images.set(image, blocks);
        return blocks.size();
    }

    int back(int image) {
        if (!in(image, 0, 1)) {
            return BAD;
        }
        if (images.get(image) == null) {
            return STATE;
        }
        blocks = images.get(image);
        past.clear();
        return blocks.size();
    }

    int count(int what) {
        if (!in(what, 0, 5)) {
            return BAD;
        }
        int sum = 0;
        int level = NONE;
        for (int b = 0; b < blocks.size(); b++) {
            sum += blocks.get(b).weight + blocks.get(b).load;
            level = Math.max(level, level(blocks, b));
        }
        int[] all = {blocks.size(), contacts(blocks).size(), sum, level, text.length(), past.size()};
        return all[what];
    }
}
