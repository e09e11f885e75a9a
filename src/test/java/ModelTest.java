import java.util.Random;

/** Long runs of calls, drawn with fixed seeds, whose every answer must be the Model's. */
public final class ModelTest {
    private static final int[] SIGNS = {'b', 'l', ';', ' ', '0', '1', '2', '3', '9', 'x', 0, 255};
    private static int wrong = 0;

    private final RestingBlocks mine = new RestingBlocks();
    private final Model model = new Model();
    private final Random random;
    private final int seed;
    private final StringBuilder calls = new StringBuilder();
    private int used = 0;

    private ModelTest(int seed) {
        this.seed = seed;
        this.random = new Random(seed);
    }

    public static void main(String[] args) {
        int runs = args.length > 0 ? Integer.parseInt(args[0]) : 1000;
        for (int seed = 0; seed < runs && wrong < 5; seed++) {
            new ModelTest(seed).run();
        }
        System.out.println(wrong == 0 ? "ModelTest: all as the model" : "ModelTest: " + wrong + " wrong");
        if (wrong != 0) {
            System.exit(1);
        }
    }

    private void run() {
        int before = wrong;
        // A step may need some 200 calls, askAllPushes() 150; the document promises no more than 512.
        int enough = seed % 4 == 0 ? 130 : 280;
        while (used < enough && wrong == before) {
            switch (random.nextInt(12)) {
                case 0, 1 -> tellSome();
                case 2, 3, 4, 5 -> change();
                default -> ask();
            }
        }
        if (seed % 4 == 0 && wrong == before) {
            askAllPushes();
        }
    }

    private void askAllPushes() {
        while (mine.count(0) < 4) {
            int x = random.nextInt(8);
            int h = 1 + random.nextInt(3);
            int g = 1 + random.nextInt(9);
            same("drops(" + x + "," + h + "," + g + ")", mine.drops(x, h, g), model.drops(x, h, g));
        }
        for (int what = 0; what < 4; what++) {
            for (int c = 0; c < mine.count(1); c++) {
                same("bounds(" + c + "," + what + ")", mine.bounds(c, what), model.bounds(c, what));
            }
            for (int b = 0; b < 4; b++) {
                int s = random.nextInt(2 * mine.block(b, 1) + 1);
                same("bears(" + b + "," + s + "," + what + ")", mine.bears(b, s, what), model.bears(b, s, what));
            }
        }
    }

    /** Mostly from 0 to most, now and then just outside. */
    private int about(int most) {
        return random.nextInt(25) == 0 ? random.nextInt(most + 5) - 2 : random.nextInt(most + 1);
    }

    private void same(String call, long got, long due) {
        used++;
        calls.append(call).append('=').append(got).append(' ');
        if (got != due) {
            wrong++;
            System.out.println("seed " + seed + ": " + call + " answered " + got + ", due is " + due + "\n  " + calls);
        }
    }

    private void letter(int letter) {
        same("type(" + letter + ")", mine.type(letter), model.type(letter));
    }

    private void number(int least, int most) {
        String blanks = random.nextInt(6) == 0 ? "  " : " ";
        String number = String.valueOf(least + random.nextInt(most - least + 1));
        if (random.nextInt(60) == 0) {
            number = random.nextBoolean() ? "0" + number : String.valueOf(random.nextLong() >>> random.nextInt(60));
        }
        (blanks + number).chars().forEach(this::letter);
    }

    private void tellSome() {
        if (random.nextInt(12) == 0) {
            for (int i = random.nextInt(130); i > 0; i--) {
                letter(random.nextInt(30) == 0 ? about(255) : SIGNS[random.nextInt(SIGNS.length)]);
            }
        }
        int items = random.nextInt(6);
        for (int i = 0, told = 0; i < items; i++) {
            boolean load = told > 0 && random.nextInt(3) == 0;
            letter(load ? 'l' : 'b');
            number(0, load ? told - 1 : 9);
            number(load ? 0 : 1, load ? random.nextInt(8) == 0 ? 6 : 2 : 3);
            number(load ? 0 : 1, load ? 20 : 9);
            if (random.nextInt(30) == 0) {
                letter(SIGNS[random.nextInt(SIGNS.length)]);
            }
            letter(';');
            told += load ? 0 : 1;
        }
        int tells = mine.tells();
        same("tells()", tells, model.tells());
        if (tells < 0 && random.nextInt(4) != 0) {
            same("clear()", mine.clear(), model.clear());
        }
    }

    private void change() {
        int a = about(3);
        int b = about(6);
        int c = about(20);
        int x = about(9);
        int w = 1 + about(8);
        int h = 1 + about(2);
        switch (random.nextInt(9)) {
            case 0, 1, 2 -> same("drops(" + x + "," + h + "," + w + ")", mine.drops(x, h, w), model.drops(x, h, w));
            case 3 -> same("lifts(" + a + ")", mine.lifts(a), model.lifts(a));
            case 4 -> same("weighs(" + a + "," + w + ")", mine.weighs(a, w), model.weighs(a, w));
            case 5, 6 -> same("loads(" + a + "," + b + "," + c + ")", mine.loads(a, b, c), model.loads(a, b, c));
            case 7 -> same("undo()", mine.undo(), model.undo());
            default -> image();
        }
    }

    private void image() {
        int i = about(1);
        if (random.nextBoolean()) {
            same("keep(" + i + ")", mine.keep(i), model.keep(i));
        } else {
            same("back(" + i + ")", mine.back(i), model.back(i));
        }
    }

    private void ask() {
        int b = about(3);
        int c = about(8);
        int s = about(4);
        int w = about(3);
        int v = about(7);
        int h = 1 + about(2);
        int g = 1 + about(8);
        switch (random.nextInt(11)) {
            case 0 -> same("block(" + b + "," + v + ")", mine.block(b, v), model.block(b, v));
            case 1 -> same("contact(" + c + "," + w + ")", mine.contact(c, w), model.contact(c, w));
            case 2 -> same("rests()", mine.rests(), model.rests());
            case 3, 4 -> same("bounds(" + c + "," + w + ")", mine.bounds(c, w), model.bounds(c, w));
            case 5, 6 -> same("bears(" + b + "," + s + "," + w + ")", mine.bears(b, s, w), model.bears(b, s, w));
            case 7 -> same("where(" + h + "," + g + ")", mine.where(h, g), model.where(h, g));
            case 8 -> same("weights(" + b + ")", mine.weights(b), model.weights(b));
            case 9 -> same("key()", mine.key(), model.key());
            default -> {
                same("hold()", mine.hold(), model.hold());
                same("count(" + v + ")", mine.count(v), model.count(v));
            }
        }
    }
}
