/** Blocks stacked on one another, and whether pushes at their contacts can hold them all at rest. */
public final class RestingBlocks {
    public static final int BAD = -1, STATE = -2, FULL = -3, NONE = -9;
    public static final int ENDLESS = -5;

    private static final int MOST_BLOCKS = 4;
    private static final int MOST_LEFT = 9;
    private static final int MOST_HALF = 3;
    private static final int MOST_WEIGHT = 9;
    private static final int MOST_LOAD = 20;
    private static final int MOST_LETTERS = 120;
    private static final int MOST_LETTER = 255;
    private static final int MOST_UNDONE = 6;
    private static final int IMAGES = 2;
    private static final int FAULTY = -10;

    private final Pile pile;
    private final Pile trial;
    private final Layout layout;
    private final Balance balance;
    private final Text text;
    private final Shelf past;
    private final Shelf images;
    private final boolean[] kept;
    private int undoable;

    public RestingBlocks() {
        pile = new Pile();
        trial = new Pile();
        layout = new Layout();
        balance = new Balance();
        text = new Text();
        past = new Shelf(MOST_UNDONE);
        images = new Shelf(IMAGES);
        kept = new boolean[IMAGES];
        undoable = 0;
    }

    // ---- what is told

    public int type(int letter) {
        if (!within(letter, 0, MOST_LETTER)) {
            return BAD;
        }
        return text.append(letter) ? text.length() : FULL;
    }

    public int clear() {
        int had = text.length();
        text.wipe();
        return had;
    }

    public int tells() {
        int items = text.readInto(trial);
        if (items < 0) {
            return FAULTY - text.place();
        }
        remember();
        pile.copy(trial);
        text.wipe();
        return items;
    }

    // ---- what is done

    public int drops(int left, int half, int weight) {
        if (!within(left, 0, MOST_LEFT) || !isBlock(half, weight)) {
            return BAD;
        }
        if (pile.size() >= MOST_BLOCKS) {
            return FULL;
        }
        remember();
        pile.add(left, half, weight);
        layout.find(pile);
        return layout.level(pile.size() - 1);
    }

    public int lifts(int b) {
        if (!pile.has(b)) {
            return BAD;
        }
        layout.find(pile);
        if (layout.over(b) != 0) {
            return STATE;
        }
        remember();
        pile.takeOut(b);
        return pile.size();
    }

    public int weighs(int b, int weight) {
        if (!pile.has(b) || !within(weight, 1, MOST_WEIGHT)) {
            return BAD;
        }
        int was = pile.get(b, Pile.WEIGHT);
        if (was == weight) {
            return STATE;
        }
        remember();
        pile.set(b, Pile.WEIGHT, weight);
        return was;
    }

    public int loads(int b, int spot, int load) {
        if (!isSpot(b, spot) || !within(load, 0, MOST_LOAD)) {
            return BAD;
        }
        int was = pile.get(b, Pile.LOAD);
        if (was == load && pile.get(b, Pile.SPOT) == spot) {
            return STATE;
        }
        remember();
        pile.set(b, Pile.LOAD, load);
        pile.set(b, Pile.SPOT, spot);
        return was;
    }

    public int undo() {
        if (undoable <= 0) {
            return STATE;
        }
        undoable--;
        past.read(undoable, pile);
        return undoable;
    }

    // ---- asked

    public int block(int b, int what) {
        if (!pile.has(b) || !within(what, 0, 7)) {
            return BAD;
        }
        if (what < Pile.NUMBERS) {
            return pile.get(b, what);
        }
        layout.find(pile);
        switch (what) {
            case 5:
                return layout.level(b);
            case 6:
                return layout.under(b);
            default:
                return layout.over(b);
        }
    }

    public int contact(int c, int what) {
        layout.find(pile);
        if (!within(c, 0, layout.contacts() - 1)) {
            return BAD;
        }
        switch (what) {
            case 0:
                return layout.upper(c);
            case 1:
                return layout.lower(c);
            case 2:
                return layout.x(c);
            default:
                return BAD;
        }
    }

    public int rests() {
        return isBalanced(pile, 0) ? 1 : 0;
    }

    public long bounds(int c, int what) {
        layout.find(pile);
        if (!within(c, 0, layout.contacts() - 1) || !within(what, 0, 3)) {
            return BAD;
        }
        balance.pose(pile, layout, 0);
        return extreme(c, what);
    }

    public long bears(int b, int spot, int what) {
        if (!isSpot(b, spot) || !within(what, 0, 3)) {
            return BAD;
        }
        layout.find(pile);
        balance.pose(pile, layout, 0);
        return extreme(balance.poseLoad(b, spot), what);
    }

    public int where(int half, int weight) {
        if (!isBlock(half, weight)) {
            return BAD;
        }
        if (pile.size() >= MOST_BLOCKS) {
            return FULL;
        }
        int bits = 0;
        for (int left = 0; left <= MOST_LEFT; left++) {
            trial.copy(pile);
            trial.add(left, half, weight);
            if (isBalanced(trial, 0)) {
                bits |= 1 << left;
            }
        }
        return bits;
    }

    public int weights(int b) {
        if (!pile.has(b)) {
            return BAD;
        }
        int bits = 0;
        trial.copy(pile);
        for (int weight = 1; weight <= MOST_WEIGHT; weight++) {
            trial.set(b, Pile.WEIGHT, weight);
            if (isBalanced(trial, 0)) {
                bits |= 1 << weight;
            }
        }
        return bits;
    }

    public int key() {
        if (!isBalanced(pile, 0)) {
            return NONE;
        }
        for (int b = 0; b < pile.size(); b++) {
            layout.find(pile);
            if (layout.over(b) == 0 && !restsWithout(b)) {
                return b;
            }
        }
        return NONE;
    }

    public int hold() {
        int blocks = pile.size();
        for (int few = 0; few < blocks; few++) {
            for (int held = 0; held < 1 << blocks; held++) {
                if (Integer.bitCount(held) == few && isBalanced(pile, held)) {
                    return held;
                }
            }
        }
        return (1 << blocks) - 1;
    }

    // ---- images

    public int keep(int image) {
        if (!within(image, 0, IMAGES - 1)) {
            return BAD;
        }
        images.write(image, pile);
        kept[image] = true;
        return pile.size();
    }

    public int back(int image) {
        if (!within(image, 0, IMAGES - 1)) {
            return BAD;
        }
        if (!kept[image]) {
            return STATE;
        }
        images.read(image, pile);
        undoable = 0;
        return pile.size();
    }

    public int count(int what) {
        switch (what) {
            case 0:
                return pile.size();
            case 1:
                layout.find(pile);
                return layout.contacts();
            case 2:
                return pile.heaviness();
            case 3:
                layout.find(pile);
                return layout.greatestLevel();
            case 4:
                return text.length();
            case 5:
                return undoable;
            default:
                return BAD;
        }
    }

    // ---- helpers

    private static boolean within(int number, int least, int most) {
        return number >= least && number <= most;
    }

    private static boolean isBlock(int half, int weight) {
        return within(half, 1, MOST_HALF) && within(weight, 1, MOST_WEIGHT);
    }

    private boolean isSpot(int b, int spot) {
        return pile.has(b) && within(spot, 0, 2 * pile.get(b, Pile.HALF));
    }

    private void remember() {
        if (undoable >= MOST_UNDONE) {
            past.forgetFirst();
            undoable = MOST_UNDONE - 1;
        }
        past.write(undoable, pile);
        undoable++;
    }

    private boolean isBalanced(Pile blocks, int held) {
        layout.find(blocks);
        balance.pose(blocks, layout, held);
        return balance.solve();
    }

    private boolean restsWithout(int b) {
        trial.copy(pile);
        trial.takeOut(b);
        return isBalanced(trial, 0);
    }

    /** Of the posed balance: the least (what 0, 1) or greatest (2, 3) of an unknown, its upper or lower number. */
    private long extreme(int unknown, int what) {
        if (!balance.solve()) {
            return NONE;
        }
        if (what < 2) {
            balance.makeLeast(unknown);
        } else if (!balance.makeGreatest(unknown)) {
            return ENDLESS;
        }
        return what % 2 == 0 ? balance.numerator(unknown) : balance.denominator(unknown);
    }

    /** The blocks in the row in which they were dropped; their numbers stand in the order of block(). */
    private static final class Pile {
        static final int LEFT = 0, HALF = 1, WEIGHT = 2, LOAD = 3, SPOT = 4;
        static final int NUMBERS = 5;
        static final int CELLS = NUMBERS * MOST_BLOCKS + 1;
        private static final int SIZE = CELLS - 1;

        private final int[] cells = new int[CELLS];

        int size() {
            return cells[SIZE];
        }

        boolean has(int b) {
            return b >= 0 && b < cells[SIZE] && b < MOST_BLOCKS;
        }

        int get(int b, int what) {
            if (!has(b) || !within(what, 0, NUMBERS - 1)) {
                return 0;
            }
            return cells[b * NUMBERS + what];
        }

        void set(int b, int what, int number) {
            if (has(b) && within(what, 0, NUMBERS - 1)) {
                cells[b * NUMBERS + what] = number;
            }
        }

        void empty() {
            cells[SIZE] = 0;
        }

        void add(int left, int half, int weight) {
            int b = size();
            if (b >= MOST_BLOCKS) {
                return;
            }
            cells[SIZE] = b + 1;
            set(b, LEFT, left);
            set(b, HALF, half);
            set(b, WEIGHT, weight);
            set(b, LOAD, 0);
            set(b, SPOT, 0);
        }

        void takeOut(int b) {
            if (!has(b)) {
                return;
            }
            int behind = size() - 1 - b;
            System.arraycopy(cells, (b + 1) * NUMBERS, cells, b * NUMBERS, behind * NUMBERS);
            cells[SIZE]--;
        }

        int heaviness() {
            int sum = 0;
            for (int b = 0; b < size(); b++) {
                sum += get(b, WEIGHT) + get(b, LOAD);
            }
            return sum;
        }

        void copy(Pile other) {
            System.arraycopy(other.cells, 0, cells, 0, CELLS);
        }
    }

    /** Places, each of which holds a copy of a pile; all in one array, so that nothing is made later. */
    private static final class Shelf {
        private final int places;
        private final int[] store;

        Shelf(int places) {
            this.places = Math.max(places, 1);
            this.store = new int[this.places * Pile.CELLS];
        }

        void write(int place, Pile pile) {
            if (within(place, 0, places - 1)) {
                System.arraycopy(pile.cells, 0, store, place * Pile.CELLS, Pile.CELLS);
            }
        }

        void read(int place, Pile pile) {
            if (within(place, 0, places - 1)) {
                System.arraycopy(store, place * Pile.CELLS, pile.cells, 0, Pile.CELLS);
            }
        }

        void forgetFirst() {
            System.arraycopy(store, Pile.CELLS, store, 0, (places - 1) * Pile.CELLS);
        }
    }

    /** The letters that were told, and how they are read as blocks. */
    private static final class Text {
        private static final int BLANK = 32;

        private final short[] letters = new short[MOST_LETTERS];
        private int length = 0;
        /** The first letter that is not read yet; where reading failed, the fault. */
        private int at = 0;

        int length() {
            return length;
        }

        int place() {
            return at;
        }

        boolean append(int letter) {
            if (length >= MOST_LETTERS) {
                return false;
            }
            letters[length] = (short) letter;
            length++;
            return true;
        }

        void wipe() {
            length = 0;
        }

        /** How many items the text has; -1, if it has a fault, whose place is then place(). */
        int readInto(Pile told) {
            told.empty();
            at = 0;
            for (int items = 0; items <= MOST_LETTERS; items++) {
                skipBlanks();
                if (at >= length) {
                    return items;
                }
                if (!readItem(told)) {
                    return -1;
                }
            }
            return -1;
        }

        private boolean readItem(Pile told) {
            switch (next()) {
                case 'b':
                    return readBlock(told);
                case 'l':
                    return readLoad(told);
                default:
                    return false;
            }
        }

        private boolean readBlock(Pile told) {
            if (told.size() >= MOST_BLOCKS) {
                return false;
            }
            at++;
            int left = readNumber(0, MOST_LEFT);
            if (left < 0) {
                return false;
            }
            int half = readNumber(1, MOST_HALF);
            if (half < 0) {
                return false;
            }
            int weight = readNumber(1, MOST_WEIGHT);
            if (weight < 0 || !readEnd()) {
                return false;
            }
            told.add(left, half, weight);
            return true;
        }

        private boolean readLoad(Pile told) {
            at++;
            int b = readNumber(0, told.size() - 1);
            if (b < 0) {
                return false;
            }
            int spot = readNumber(0, 2 * told.get(b, Pile.HALF));
            if (spot < 0) {
                return false;
            }
            int load = readNumber(0, MOST_LOAD);
            if (load < 0 || !readEnd()) {
                return false;
            }
            told.set(b, Pile.SPOT, spot);
            told.set(b, Pile.LOAD, load);
            return true;
        }

        /** A number from least to most, or -1: then the fault stands where the next token begins. */
        private int readNumber(int least, int most) {
            skipBlanks();
            int start = at;
            boolean zeroFirst = next() == '0';
            int number = 0;
            while (at < length && isFigure(next())) {
                // A long row of figures must not wrap round to a number that may stand.
                number = Math.min(10 * number + next() - '0', 100);
                at++;
            }
            boolean zeroAhead = zeroFirst && at - start > 1;
            if (at == start || zeroAhead || !within(number, least, most)) {
                at = start;
                return -1;
            }
            return number;
        }

        private boolean readEnd() {
            skipBlanks();
            if (next() != ';') {
                return false;
            }
            at++;
            return true;
        }

        private void skipBlanks() {
            while (at < length && next() == BLANK) {
                at++;
            }
        }

        /** The letter at which reading stands; -1 behind the last one. */
        private int next() {
            return at >= 0 && at < length && at < MOST_LETTERS ? letters[at] : -1;
        }

        private static boolean isFigure(int letter) {
            return within(letter, '0', '9');
        }
    }

    /** Where the blocks of a pile lie: levels, what lies on what, contacts. */
    private static final class Layout {
        /** Three blocks on the ground and one on all three; no other row of four has as many. */
        static final int MOST_CONTACTS = 12;

        private final int[] lefts = new int[MOST_BLOCKS];
        private final int[] rights = new int[MOST_BLOCKS];
        private final int[] levels = new int[MOST_BLOCKS];
        private final int[] under = new int[MOST_BLOCKS];
        private final int[] over = new int[MOST_BLOCKS];
        private final int[] uppers = new int[MOST_CONTACTS];
        private final int[] lowers = new int[MOST_CONTACTS];
        private final int[] places = new int[MOST_CONTACTS];
        private int blocks = 0;
        private int contacts = 0;

        void find(Pile pile) {
            blocks = Math.min(pile.size(), MOST_BLOCKS);
            contacts = 0;
            for (int b = 0; b < blocks; b++) {
                lefts[b] = pile.get(b, Pile.LEFT);
                rights[b] = lefts[b] + 2 * pile.get(b, Pile.HALF);
                over[b] = 0;
                findLevel(b);
                findUnder(b);
                findContacts(b);
            }
        }

        private void findLevel(int b) {
            int level = 0;
            for (int a = 0; a < b; a++) {
                if (overlap(a, b)) {
                    level = Math.max(level, levels[a] + 1);
                }
            }
            levels[b] = level;
        }

        private void findUnder(int b) {
            under[b] = 0;
            for (int a = 0; a < b; a++) {
                if (levels[a] == levels[b] - 1 && overlap(a, b)) {
                    under[b] |= 1 << a;
                    over[a] |= 1 << b;
                }
            }
        }

        private void findContacts(int b) {
            if (under[b] == 0) {
                addContact(b, NONE, lefts[b]);
                addContact(b, NONE, rights[b]);
            }
            for (int a = 0; a < b; a++) {
                if ((under[b] >> a & 1) == 1) {
                    addContact(b, a, Math.max(lefts[a], lefts[b]));
                    addContact(b, a, Math.min(rights[a], rights[b]));
                }
            }
        }

        private void addContact(int upper, int lower, int x) {
            if (contacts < MOST_CONTACTS) {
                uppers[contacts] = upper;
                lowers[contacts] = lower;
                places[contacts] = x;
                contacts++;
            }
        }

        private boolean overlap(int a, int b) {
            return lefts[a] < rights[b] && lefts[b] < rights[a];
        }

        int contacts() {
            return contacts;
        }

        int level(int b) {
            return within(b, 0, blocks - 1) ? levels[b] : NONE;
        }

        int under(int b) {
            return within(b, 0, blocks - 1) ? under[b] : 0;
        }

        int over(int b) {
            return within(b, 0, blocks - 1) ? over[b] : 0;
        }

        int greatestLevel() {
            int greatest = NONE;
            for (int b = 0; b < blocks; b++) {
                greatest = Math.max(greatest, levels[b]);
            }
            return greatest;
        }

        int upper(int c) {
            return within(c, 0, contacts - 1) ? uppers[c] : NONE;
        }

        int lower(int c) {
            return within(c, 0, contacts - 1) ? lowers[c] : NONE;
        }

        int x(int c) {
            return within(c, 0, contacts - 1) ? places[c] : 0;
        }
    }

    /**
     * The equations of balance, two for each block, over unknowns that are not below 0, solved exactly.
     *
     * It is the simplex method on whole numbers: every cell is a determinant of the first equations, all
     * with the one divisor {@code divisor}, so that each division in a step leaves no rest. A determinant
     * here is below 10^9 (8 rows, columns of length below 9, one of length below 300), so that a product
     * of two fits a long. Entering and leaving unknowns are chosen by the lowest number (Bland's rule),
     * by which the steps come to an end.
     */
    private static final class Balance {
        private static final int MOST_ROWS = 2 * MOST_BLOCKS;
        private static final int MOST_UNKNOWNS = Layout.MOST_CONTACTS + 1;
        /** The column of what the unknowns of a row must come to. */
        private static final int SUM = MOST_UNKNOWNS;
        private static final int MOST_STEPS = 100_000;
        private static final int MOST_DIVISIONS = 200;

        private final long[][] cells = new long[MOST_ROWS][MOST_UNKNOWNS + 1];
        /** The unknown that a row gives; from MOST_UNKNOWNS on: a makeshift one, which must become 0. */
        private final int[] givenBy = new int[MOST_ROWS];
        private final int[] blockRow = new int[MOST_BLOCKS];
        private int rows = 0;
        private int unknowns = 0;
        private long divisor = 1;

        /** The equations of all blocks but the held ones; the unknowns are the pushes of the contacts. */
        void pose(Pile pile, Layout layout, int held) {
            rows = 0;
            unknowns = Math.min(layout.contacts(), MOST_UNKNOWNS - 1);
            divisor = 1;
            for (int b = 0; b < pile.size() && b < MOST_BLOCKS; b++) {
                blockRow[b] = -1;
                if ((held >> b & 1) == 0 && rows + 2 <= MOST_ROWS) {
                    poseBlock(pile, layout, b);
                }
            }
        }

        private void poseBlock(Pile pile, Layout layout, int b) {
            int row = rows;
            rows += 2;
            blockRow[b] = row;
            givenBy[row] = MOST_UNKNOWNS + row;
            givenBy[row + 1] = MOST_UNKNOWNS + row + 1;
            for (int c = 0; c < unknowns; c++) {
                int sign = layout.upper(c) == b ? 1 : layout.lower(c) == b ? -1 : 0;
                cells[row][c] = sign;
                cells[row + 1][c] = sign * (layout.x(c) - pile.get(b, Pile.LEFT));
            }
            int weight = pile.get(b, Pile.WEIGHT);
            int load = pile.get(b, Pile.LOAD);
            cells[row][SUM] = weight + load;
            cells[row + 1][SUM] = weight * pile.get(b, Pile.HALF) + load * pile.get(b, Pile.SPOT);
        }

        /** One unknown more: a load besides, at a spot of a block. Which unknown it is. */
        int poseLoad(int b, int spot) {
            int unknown = unknowns;
            if (unknown >= MOST_UNKNOWNS || !within(b, 0, MOST_BLOCKS - 1)) {
                return -1;
            }
            for (int row = 0; row < rows; row++) {
                cells[row][unknown] = 0;
            }
            int row = blockRow[b];
            if (row >= 0 && row + 1 < rows) {
                cells[row][unknown] = -1;
                cells[row + 1][unknown] = -spot;
            }
            unknowns++;
            return unknown;
        }

        /** Whether the equations can be met; if so, they are met from then on. */
        boolean solve() {
            for (int step = 0; step < MOST_STEPS; step++) {
                int entering = firstThatLessensMakeshift();
                int row = leavingRow(entering);
                if (row < 0) {
                    break;
                }
                pivot(row, entering);
            }
            if (makeshift(SUM) != 0) {
                return false;
            }
            driveOutMakeshift();
            return true;
        }

        /** Of a column: its sum over the rows that still give a makeshift unknown. */
        private long makeshift(int column) {
            long sum = 0;
            for (int row = 0; row < rows; row++) {
                if (givenBy[row] >= MOST_UNKNOWNS) {
                    sum += cells[row][column];
                }
            }
            return sum;
        }

        private int firstThatLessensMakeshift() {
            for (int j = 0; j < unknowns; j++) {
                if (makeshift(j) > 0) {
                    return j;
                }
            }
            return -1;
        }

        /** Makeshift unknowns that are 0 must not grow later; a row of zeros is left as it is. */
        private void driveOutMakeshift() {
            for (int row = 0; row < rows; row++) {
                for (int j = 0; j < unknowns && givenBy[row] >= MOST_UNKNOWNS; j++) {
                    if (cells[row][j] != 0) {
                        pivot(row, j);
                    }
                }
            }
        }

        /** Behind solve(): makes an unknown as small as it can be. */
        void makeLeast(int unknown) {
            for (int step = 0; step < MOST_STEPS; step++) {
                int entering = firstOfSign(rowThatGives(unknown), unknown, 1);
                int leaving = leavingRow(entering);
                if (leaving < 0) {
                    return;
                }
                pivot(leaving, entering);
            }
        }

        /** Behind solve(): makes an unknown as great as it can be; false, if there is no greatest. */
        boolean makeGreatest(int unknown) {
            if (rowThatGives(unknown) < 0) {
                int leaving = leavingRow(unknown);
                if (leaving < 0) {
                    return false;
                }
                pivot(leaving, unknown);
            }
            for (int step = 0; step < MOST_STEPS; step++) {
                int entering = firstOfSign(rowThatGives(unknown), unknown, -1);
                if (entering < 0) {
                    return true;
                }
                int leaving = leavingRow(entering);
                if (leaving < 0) {
                    return false;
                }
                pivot(leaving, entering);
            }
            return true;
        }

        private int rowThatGives(int unknown) {
            for (int row = 0; row < rows; row++) {
                if (givenBy[row] == unknown) {
                    return row;
                }
            }
            return -1;
        }

        private int firstOfSign(int row, int unknown, int sign) {
            if (row < 0 || row >= rows) {
                return -1;
            }
            for (int j = 0; j < unknowns; j++) {
                if (j != unknown && sign * cells[row][j] > 0) {
                    return j;
                }
            }
            return -1;
        }

        /** The row whose unknown is the first to come to 0 as another one grows; -1: none. */
        private int leavingRow(int entering) {
            if (entering < 0 || entering >= unknowns) {
                return -1;
            }
            int best = -1;
            for (int row = 0; row < rows; row++) {
                if (cells[row][entering] > 0 && (best < 0 || leavesAhead(row, best, entering))) {
                    best = row;
                }
            }
            return best;
        }

        private boolean leavesAhead(int row, int other, int entering) {
            long one = cells[row][SUM] * cells[other][entering];
            long two = cells[other][SUM] * cells[row][entering];
            return one < two || one == two && givenBy[row] < givenBy[other];
        }

        private void pivot(int row, int entering) {
            if (cells[row][entering] < 0) {
                turnSigns(row);
            }
            long pivot = cells[row][entering];
            if (pivot == 0 || divisor == 0) {
                return;
            }
            for (int i = 0; i < rows; i++) {
                if (i != row) {
                    clearBy(i, row, entering);
                }
            }
            divisor = pivot;
            givenBy[row] = entering;
        }

        private void turnSigns(int row) {
            for (int j = 0; j < unknowns; j++) {
                cells[row][j] = -cells[row][j];
            }
            cells[row][SUM] = -cells[row][SUM];
        }

        private void clearBy(int i, int row, int entering) {
            long pivot = cells[row][entering];
            long factor = cells[i][entering];
            for (int j = 0; j < unknowns; j++) {
                cells[i][j] = (cells[i][j] * pivot - factor * cells[row][j]) / divisor;
            }
            cells[i][SUM] = (cells[i][SUM] * pivot - factor * cells[row][SUM]) / divisor;
        }

        long numerator(int unknown) {
            int row = rowThatGives(unknown);
            if (row < 0) {
                return 0;
            }
            return cells[row][SUM] / commonDivisor(cells[row][SUM], divisor);
        }

        long denominator(int unknown) {
            int row = rowThatGives(unknown);
            if (row < 0) {
                return 1;
            }
            return divisor / commonDivisor(cells[row][SUM], divisor);
        }

        /** The greatest common divisor; 1 rather than 0, so that it may divide. */
        private static long commonDivisor(long one, long two) {
            long a = Math.abs(one);
            long b = Math.abs(two);
            for (int step = 0; step < MOST_DIVISIONS && b != 0; step++) {
                long rest = a % b;
                a = b;
                b = rest;
            }
            return a == 0 ? 1 : a;
        }
    }
}
