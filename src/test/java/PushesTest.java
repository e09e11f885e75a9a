/** RESTS, BOUNDS, MAY BEAR, DROPS, WEIGHTS, KEY, HOLD: just so, just not, none, all, endless. */
public final class PushesTest {
    private static final Check check = new Check("PushesTest");
    private static final int NONE = Check.NONE, ENDLESS = Check.ENDLESS;

    public static void main(String[] args) {
        justAtRest();
        bothMustBe();
        bounds();
        boundsOfMany();
        noBounds();
        bears();
        bearsNothing();
        bearsBeside();
        drops();
        weights();
        key();
        hold();
        nothingIsChanged();
        check.end();
    }

    private static void rests(String text, int want) {
        check.due("rests() of " + text, check.told(text).rests(), want);
    }

    private static void justAtRest() {
        check.sentence("PUSHES: none below 0: the middle just above the end of what it LIES on, and just beyond");
        rests("b 3 1 1;b 4 1 9;", 1);
        rests("b 3 1 1;b 4 2 1;", 0);
        rests("b 5 1 1;b 4 1 9;", 1);
        rests("b 5 1 1;b 2 2 1;", 0);
        check.sentence("RESTS: a LOAD just enough, and 1 less");
        rests("b 2 2 3;b 4 3 9;l 1 0 5;", 1);
        rests("b 2 2 3;b 4 3 9;l 1 0 4;", 0);
        rests("b 2 2 3;b 4 3 8;l 1 0 4;", 1);
        check.sentence("a LOAD of 0 is none, whatever its SPOT");
        rests("b 3 1 1;b 4 1 9;l 1 2 0;", 1);
        rests("b 3 1 1;b 4 1 9;l 1 2 1;", 0);
        rests("b 3 1 1;b 4 1 9;l 1 1 20;", 1);
        check.sentence("a LOAD at either end of what LIES on the GROUND");
        rests("b 3 1 1;l 0 0 20;", 1);
        rests("b 3 1 1;l 0 2 20;", 1);
        rests("b 9 3 1;l 0 6 20;", 1);
    }

    private static void bothMustBe() {
        check.sentence("It all RESTS, if there are PUSHES by which each BLOCK is BALANCED");
        rests("b 0 1 1;b 0 1 1;b 0 1 1;b 0 1 1;", 1);
        rests("b 0 1 1;b 4 1 1;b 8 1 1;b 9 3 1;", 0);
        rests("b 0 1 1;b 4 1 1;b 8 1 1;b 8 1 1;", 1);
        check.sentence("one that would REST alone is tilted by what LIES on it");
        rests("b 2 1 1;b 3 1 5;", 1);
        rests("b 2 1 1;b 3 1 5;b 4 1 1;", 0);
        rests("b 2 1 1;b 3 1 5;b 3 1 1;", 1);
        check.sentence("one that would tilt alone RESTS by what LIES on it");
        rests("b 2 1 5;b 3 2 2;", 0);
        rests("b 2 1 5;b 3 2 2;b 2 1 2;", 1);
        rests("b 2 1 5;b 3 2 3;b 2 1 2;", 0);
    }

    private static void bounds() {
        check.sentence("BOUNDS: the least, the greatest PUSH; in least terms");
        RestingBlocks x = check.told("b 0 1 1;l 0 0 20;");
        check.due("bounds(0)", Check.bounds(x, 0), 41, 2, 41, 2);
        check.due("bounds(1)", Check.bounds(x, 1), 1, 2, 1, 2);
        check.due("whole: over 1", Check.bounds(check.told("b 0 1 2;"), 0), 1, 1, 1, 1);
        RestingBlocks edge = check.told("b 3 1 1;b 4 1 1;");
        check.due("nothing: 0 over 1", Check.bounds(edge, 2), 0, 1, 0, 1);
        check.due("all", Check.bounds(edge, 3), 1, 1, 1, 1);
        check.due("sixths", Check.bounds(check.told("b 0 3 1;l 0 5 1;"), 0), 2, 3, 2, 3);
        check.due("sixths", Check.bounds(check.told("b 0 3 2;l 0 5 1;"), 0), 7, 6, 7, 6);
        check.due("a LOAD in the middle", Check.bounds(check.told("b 0 3 1;l 0 3 2;"), 1), 3, 2, 3, 2);
    }

    private static void boundsOfMany() {
        check.sentence("BOUNDS: by any PUSHES by which all RESTS, where these are many");
        RestingBlocks x = check.told("b 0 1 2;b 5 1 2;b 1 3 6;l 2 6 4;");
        check.due("bounds(4)", Check.bounds(x, 4), 0, 1, 3, 1);
        check.due("bounds(5)", Check.bounds(x, 5), 0, 1, 18, 5);
        check.due("bounds(6)", Check.bounds(x, 6), 0, 1, 9, 1);
        check.due("bounds(7)", Check.bounds(x, 7), 1, 1, 7, 1);
    }

    private static void noBounds() {
        check.sentence("BOUNDS: NONE, if it does not REST");
        RestingBlocks x = check.told("b 8 1 1;b 3 1 1;b 4 2 1;");
        for (int c = 0; c < 6; c++) {
            check.due("bounds(" + c + "), of what lies apart, too", Check.bounds(x, c), NONE, NONE, NONE, NONE);
        }
    }

    private static void bears() {
        check.sentence("MAY BEAR: the least (LIGHTEST) and the greatest (HEAVIEST; ENDLESS, if there is none)");
        RestingBlocks both = check.told("b 4 1 1;b 2 3 2;l 1 6 4;");
        check.due("bears(1, 0): between two", Check.bears(both, 1, 0), 3, 2, 9, 1);
        check.due("bears(1, 1)", Check.bears(both, 1, 1), 2, 1, 18, 1);
        check.due("bears(1, 2): over the end", Check.bears(both, 1, 2), 3, 1, ENDLESS, ENDLESS);
        check.due("bears(1, 3): within", Check.bears(both, 1, 3), 6, 1, ENDLESS, ENDLESS);
        check.due("bears(1, 4): over the end it tilts at", Check.bears(both, 1, 4), NONE, NONE, NONE, NONE);
        check.due("bears(1, 6): on the wrong side", Check.bears(both, 1, 6), NONE, NONE, NONE, NONE);
        RestingBlocks ground = check.told("b 3 1 1;");
        for (int spot = 0; spot <= 2; spot++) {
            check.due("bears(0, " + spot + ")", Check.bears(ground, 0, spot), 0, 1, ENDLESS, ENDLESS);
        }
        check.sentence("MAY BEAR: all numbers w, above 20, too");
        RestingBlocks far = check.told("b 0 1 1;b 1 3 9;l 1 6 20;");
        check.due("bears(1, 0)", Check.bears(far, 1, 0), 118, 1, ENDLESS, ENDLESS);
        check.due("bears(1, 1)", Check.bears(far, 1, 1), NONE, NONE, NONE, NONE);
        check.due("bears(0, 0)", Check.bears(far, 0, 0), NONE, NONE, NONE, NONE);
        check.sentence("MAY BEAR: of the last of four");
        RestingBlocks four = check.told("b 8 1 1;b 0 1 1;b 4 1 1;b 2 3 2;l 3 6 4;");
        check.due("bears(3, 0)", Check.bears(four, 3, 0), 3, 2, 9, 1);
        check.due("bears(3, 4)", Check.bears(four, 3, 4), NONE, NONE, NONE, NONE);
        check.due("bears(0, 0), while another one tilts", Check.bears(four, 0, 0), NONE, NONE, NONE, NONE);
    }

    private static void bearsNothing() {
        check.sentence("MAY BEAR: one number alone");
        RestingBlocks edge = check.told("b 3 1 1;b 4 1 1;");
        check.due("bears(1, 2): 0", Check.bears(edge, 1, 2), 0, 1, 0, 1);
        check.due("bears(1, 1): over the end", Check.bears(edge, 1, 1), 0, 1, ENDLESS, ENDLESS);
        RestingBlocks three = check.told("b 3 1 1;b 4 1 1;b 5 1 1;");
        check.due("bears(0, 2): NONE", Check.bears(three, 0, 2), NONE, NONE, NONE, NONE);
        check.due("bears(1, 0)", Check.bears(three, 1, 0), 1, 1, ENDLESS, ENDLESS);
        check.due("bears(2, 0): of no use there", Check.bears(three, 2, 0), NONE, NONE, NONE, NONE);
    }

    private static void bearsBeside() {
        check.sentence("MAY BEAR: beside its own LOAD");
        RestingBlocks x = check.told("b 2 2 3;b 4 3 9;");
        check.due("bears(1, 0)", Check.bears(x, 1, 0), 9, 2, ENDLESS, ENDLESS);
        x.loads(1, 0, 4);
        check.due("bears(1, 0)", Check.bears(x, 1, 0), 1, 2, ENDLESS, ENDLESS);
        check.due("bears(1, 1)", Check.bears(x, 1, 1), 1, 1, ENDLESS, ENDLESS);
        x.loads(1, 0, 5);
        check.due("bears(1, 0)", Check.bears(x, 1, 0), 0, 1, ENDLESS, ENDLESS);
        check.due("bears(1, 6)", Check.bears(x, 1, 6), 0, 1, 1, 4);
        x.loads(1, 0, 20);
        check.due("bears(1, 6)", Check.bears(x, 1, 6), 0, 1, 31, 4);
    }

    private static void drops() {
        check.sentence("DROPS: places X (0 to 9; bits)");
        check.due("where(3, 1)", check.told("b 0 1 1;").where(3, 1), 1020);
        check.due("where(3, 1)", check.told("b 9 1 1;").where(3, 1), 463);
        check.due("where(1, 1): all", check.told("b 9 1 1;").where(1, 1), 1023);
        check.due("where(1, 9): none", check.told("b 3 1 1;b 4 3 1;b 9 3 1;").where(1, 9), 0);
        RestingBlocks tilted = check.told("b 2 1 5;b 3 2 2;");
        check.due("where(1, 1): too light", tilted.where(1, 1), 0);
        check.due("where(1, 2): just", tilted.where(1, 2), 4);
        check.due("where(1, 9)", tilted.where(1, 9), 4);
        check.due("where(1, 9), the lowest bit", check.told("b 1 1 5;b 1 2 3;l 1 4 1;").where(1, 9), 3);
        RestingBlocks right = check.told("b 9 1 5;b 6 2 2;");
        check.due("rests()", right.rests(), 0);
        check.due("where(1, 9), the highest bit", right.where(1, 9), 512);
    }

    private static void weights() {
        check.sentence("WEIGHTS: 1 to 9 (bits 1 to 9)");
        RestingBlocks heavy = check.told("b 4 1 1;b 2 3 1;l 1 5 9;");
        check.due("weights(1): 9 alone", heavy.weights(1), 512);
        heavy.loads(1, 5, 8);
        check.due("weights(1): 8 and 9", heavy.weights(1), 768);
        heavy.loads(1, 5, 10);
        check.due("weights(1): none", heavy.weights(1), 0);
        heavy.loads(1, 5, 1);
        check.due("weights(1): all", heavy.weights(1), 1022);
        RestingBlocks light = check.told("b 0 1 1;b 0 3 5;l 1 1 1;");
        check.due("weights(1): 1 alone", light.weights(1), 2);
        light.loads(1, 1, 0);
        check.due("weights(1): none", light.weights(1), 0);
        light.loads(1, 1, 9);
        check.due("weights(1): all", light.weights(1), 1022);
        check.due("weights(0): of one below, all", light.weights(0), 1022);
        light.loads(1, 1, 4);
        check.due("weights(0): of one below, none", light.weights(0), 0);
        check.due("weights(1): 1 to 4", light.weights(1), 30);
        check.due("block(1, 2): as it was", light.block(1, 2), 5);
    }

    private static void key() {
        check.sentence("KEY: of BLOCKS on which none LIES the one of the lowest number; NONE");
        check.due("of one", check.told("b 3 1 1;").key(), NONE);
        check.due("of one that holds another one", check.told("b 2 1 5;b 3 2 2;b 2 1 2;").key(), 2);
        check.due("of two such", check.told("b 4 1 9;b 2 3 1;b 2 1 9;b 6 1 9;").key(), 2);
        check.due("of two of which either is enough", check.told("b 2 1 5;b 3 3 1;l 1 0 2;b 2 1 2;").key(), NONE);
        check.due("of one on which another LIES: that other", check.told("b 2 1 5;b 3 2 2;b 2 1 1;b 2 1 1;").key(), 3);
        check.due("of one that is enough with half of it", check.told("b 2 1 5;b 3 2 2;b 2 1 2;b 2 1 1;").key(), NONE);
        check.due("none of those on which one LIES", check.told("b 8 1 1;b 2 1 1;b 1 2 9;b 3 2 1;").key(), NONE);
        RestingBlocks x = new RestingBlocks();
        x.drops(2, 1, 5);
        x.drops(3, 2, 2);
        x.drops(2, 1, 2);
        check.due("of what was dropped", x.key(), 2);
        x.weighs(1, 1);
        check.due("of what was weighed", x.key(), 2);
        x.loads(1, 0, 1);
        check.due("of what was loaded", x.key(), NONE);
        check.sentence("KEY: all being at REST now; NONE (also if it does not REST)");
        check.due("not at REST", check.told("b 2 1 5;b 3 2 2;b 2 1 1;").key(), NONE);
        check.due("not at REST elsewhere", check.told("b 2 1 5;b 3 2 2;b 2 1 2;b 3 3 1;").key(), NONE);
    }

    private static void hold() {
        check.sentence("HOLD: the fewest BLOCKS (bits; of as few the least): 0, if it RESTS");
        check.due("at REST", check.told("b 3 1 1;b 4 1 1;").hold(), 0);
        check.due("one", check.told("b 3 1 1;b 4 2 1;").hold(), 2);
        check.due("of two of which either would do, the least", check.told("b 3 1 1;b 4 1 1;b 5 1 1;").hold(), 2);
        check.due("one of a high number", check.told("b 0 1 1;b 2 1 1;b 4 1 1;b 5 3 1;").hold(), 8);
        check.due("two", check.told("b 0 1 1;b 1 3 9;b 8 1 1;b 9 3 9;").hold(), 10);
        check.due("three", check.told("b 4 1 1;b 1 2 1;b 5 3 1;b 9 3 1;").hold(), 14);
        check.sentence("HOLD: PUSHES of one that need not be BALANCED go on, none below 0");
        check.due("one that holds two others down", check.told("b 4 1 9;b 1 2 5;b 5 2 5;b 4 1 1;").hold(), 8);
        check.due("one below can't pull", check.told("b 3 1 1;b 3 1 1;b 4 2 1;").hold(), 4);
    }

    private static void nothingIsChanged() {
        check.sentence("3 (Nothing is changed.)");
        String[] texts = {"", "b 3 1 1;b 4 2 1;", "b 0 1 2;b 5 1 3;b 1 3 6;l 2 6 4;", "b 2 1 5;b 3 2 2;b 2 1 2;b 2 1 1;"};
        for (String text : texts) {
            RestingBlocks x = Check.typed(check.told(text), "b 7");
            String was = Check.asked(x);
            check.due("asked again", Check.asked(x), was);
            RestingBlocks y = Check.typed(check.told(text), "b 7");
            y.key();
            y.hold();
            y.where(2, 5);
            y.weights(0);
            y.bears(0, 0, 2);
            y.bounds(0, 2);
            y.rests();
            check.due("all behind questions", Check.drained(y), Check.drained(Check.typed(check.told(text), "b 7")));
        }
    }
}
