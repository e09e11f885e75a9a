/** THE TEXT: what may stand where, and the place of the FAULT. */
public final class TextTest {
    private static final Check check = new Check("TextTest");

    public static void main(String[] args) {
        numbersOfBlocks();
        numbersOfLoads();
        blanks();
        otherLetters();
        figures();
        tooEarly();
        wrongTokens();
        fifthBlock();
        loadWithoutBlocks();
        firstFault();
        toldAgain();
        toldAnew();
        check.end();
    }

    private static void fault(String text, int place) {
        RestingBlocks x = Check.typed(check.told("b 2 1 3;"), text);
        check.due("tells() of '" + text + "'", x.tells(), -10 - place);
        check.due("letters of '" + text + "'", x.count(4), text.length());
        check.due("undoable behind '" + text + "'", x.count(5), 1);
        check.due("blocks behind '" + text + "'", Check.blocks(x), "2 1 3 0 0 ;");
    }

    private static void tells(String text, int items, String blocks) {
        RestingBlocks x = Check.typed(check.told("b 2 1 3;"), text);
        check.due("tells() of '" + text + "'", x.tells(), items);
        check.due("letters behind '" + text + "'", x.count(4), 0);
        check.due("undoable behind '" + text + "'", x.count(5), 2);
        check.due("blocks of '" + text + "'", Check.blocks(x), blocks);
    }

    /** Of a text around a number: the numbers from least to most may stand there, no other one. */
    private static void may(String ahead, String behind, int least, int most) {
        for (int n = 0; n <= 130; n++) {
            String text = ahead + n + behind;
            RestingBlocks x = Check.typed(new RestingBlocks(), text);
            int want = n >= least && n <= most ? text.length() - text.replace(";", "").length() : -10 - ahead.length();
            check.due("tells() of '" + text + "'", x.tells(), want);
        }
    }

    private static void numbersOfBlocks() {
        check.sentence("b X H G: LEFT (0 .. 9), HALF (1 .. 3), WEIGHT (1 .. 9)");
        may("b ", " 1 1;", 0, 9);
        may("b 1 ", " 1;", 1, 3);
        may("b 1 1 ", ";", 1, 9);
        tells("b 0 1 1;", 1, "0 1 1 0 0 ;");
        tells("b 9 3 9;", 1, "9 3 9 0 0 ;");
    }

    private static void numbersOfLoads() {
        check.sentence("l B S G: BLOCK B, told ahead, has a LOAD G (0 .. 20) at SPOT S (0 to twice HALF)");
        may("b 1 1 1;l ", " 0 1;", 0, 0);
        may("b 1 1 1;b 1 1 1;b 1 1 1;l ", " 0 1;b 1 1 1;", 0, 2);
        may("b 1 1 1;b 1 1 1;b 1 1 1;b 1 1 1;l ", " 0 1;", 0, 3);
        may("b 1 1 1;l 0 ", " 1;", 0, 2);
        may("b 1 2 1;l 0 ", " 1;", 0, 4);
        may("b 1 3 1;l 0 ", " 1;", 0, 6);
        may("b 1 3 1;b 1 1 1;l 1 ", " 1;", 0, 2);
        may("b 1 1 1;b 1 3 1;l 1 ", " 1;", 0, 6);
        may("b 1 1 1;l 0 0 ", ";", 0, 20);
        tells("b 1 3 1;l 0 6 20;", 2, "1 3 1 20 6 ;");
        tells("b 1 3 1;l 0 6 0;", 2, "1 3 1 0 6 ;");
    }

    private static void blanks() {
        check.sentence("blanks (32) may stand ahead of, between and behind TOKENS (needed between two NUMBERS alone)");
        tells("b1 2 3;", 1, "1 2 3 0 0 ;");
        tells("b1 2 3;l0 4 5;b6 1 7;", 3, "1 2 3 5 4 ; 6 1 7 0 0 ;");
        tells("   b   1   2   3   ;   l   0   4   5   ;   ", 2, "1 2 3 5 4 ;");
        tells(" ", 0, "");
        tells("", 0, "");
        fault("b12 3;", 1);
        fault("b1 23;", 3);
        fault("b1 2 34;", 5);
        fault("b123;", 1);
        fault("b1 2 3;l04 5;", 8);
        fault("b1 2 3;l0 45;", 10);
    }

    private static void otherLetters() {
        check.sentence("FAULT: of any other letter that TOKEN's place");
        for (int letter = 0; letter < 256; letter++) {
            boolean figure = letter >= '0' && letter <= '9';
            boolean known = letter == ' ' || letter == 'b' || letter == 'l' || letter == ';' || figure;
            if (!known) {
                char sign = (char) letter;
                fault(sign + "b 1 1 1;", 0);
                fault("b" + sign + "1 1 1;", 1);
                fault("b 1" + sign + "1 1;", 3);
                fault("b 1 1 1" + sign + ";", 7);
                fault("b 1 1 1;" + sign, 8);
            }
        }
    }

    private static void figures() {
        check.sentence("FAULT: of a NUMBER above 99 or with a 0 ahead of others, that TOKEN's place");
        String[] wrong = {"00", "01", "09", "000", "001", "100", "101", "255", "256", "999", "1000", "65537", "2147483647",
            "2147483648", "4294967295", "4294967296", "4294967297", "42949672961", "18446744073709551617", "99999999999999999999"};
        for (String number : wrong) {
            fault("b " + number + " 1 1;", 2);
            fault("b 1 " + number + " 1;", 4);
            fault("b 1 1 " + number + ";", 6);
            fault("b 1 1 1;l " + number + " 1 1;", 10);
            fault("b 1 1 1;l 0 " + number + " 1;", 12);
            fault("b 1 1 1;l 0 1 " + number + ";", 14);
            fault(number, 0);
            fault("b 1 1 1 " + number + ";", 8);
        }
        check.sentence("FAULT: a NUMBER beyond what it may be; 99 is no less one than 10");
        fault("b 99 1 1;", 2);
        fault("b 10 1 1;", 2);
        fault("b 1 1 99;", 6);
        tells("b 0 1 1;l 0 0 0;", 2, "0 1 1 0 0 ;");
    }

    private static void tooEarly() {
        check.sentence("FAULT: the text's length, if it ends too early");
        String whole = "b 1 1 1;l 0 2 20;";
        for (int length = 1; length < whole.length(); length++) {
            String text = whole.substring(0, length);
            if (length != 8) {
                fault(text, length);
                fault(text + "   ", length + 3);
            }
        }
        tells(whole.substring(0, 8), 1, "1 1 1 0 0 ;");
        fault("l", 1);
        fault("l ", 2);
    }

    private static void wrongTokens() {
        check.sentence("FAULT: the place of the first letter of the first TOKEN that can't stand there");
        fault(";", 0);
        fault("   ;", 3);
        fault("5", 0);
        fault("b 1 1 1;;", 8);
        fault("b 1 1 1; 7", 9);
        fault("bb", 1);
        fault("bl", 1);
        fault("b;", 1);
        fault("b 1;", 3);
        fault("b 1 b", 4);
        fault("b 1 1;", 5);
        fault("b 1 1l", 5);
        fault("b 1 1 1b", 7);
        fault("b 1 1 1 1;", 8);
        fault("b 1 1 1l", 7);
        fault("b 1 1 1;lb", 9);
        fault("b 1 1 1;l l", 10);
        fault("b 1 1 1;l;", 9);
        fault("b 1 1 1;l 0;", 11);
        fault("b 1 1 1;l 0 1;", 13);
        fault("b 1 1 1;l 0 1 1 1;", 16);
        fault("b 1 1 1;l 0 1 1 l", 16);
        fault("b 1 1 1;l 0 1 1 b", 16);
    }

    private static void fifthBlock() {
        check.sentence("FAULT: a fifth b");
        String four = "b 1 1 1;b 2 1 1;b 3 1 1;b 4 1 1;";
        tells(four, 4, "1 1 1 0 0 ; 2 1 1 0 0 ; 3 1 1 0 0 ; 4 1 1 0 0 ;");
        fault(four + "b", 32);
        fault(four + "  b 5 1 1;", 34);
        fault(four + "b x", 32);
        fault(four + "l 3 0 1;b 5 1 1;", 40);
        tells(four + "l 3 0 1;l 0 0 2;", 6, "1 1 1 2 0 ; 2 1 1 0 0 ; 3 1 1 0 0 ; 4 1 1 1 0 ;");
    }

    private static void loadWithoutBlocks() {
        check.sentence("FAULT: behind an l without BLOCKS told ahead any NUMBER");
        for (int n = 0; n <= 101; n++) {
            fault("l " + n + " 0 1;", 2);
        }
        fault("l0", 1);
        fault("l 0 0 1;b 1 1 1;", 2);
        check.sentence("BLOCK B, told ahead: blocks that were there ahead of the text are not");
        RestingBlocks x = Check.typed(check.told("b 1 1 1;b 2 1 1;"), "l 0 0 1;");
        check.due("tells()", x.tells(), -12);
        x.clear();
        Check.typed(x, "b 5 1 1;l 1 0 1;");
        check.due("tells()", x.tells(), -20);
        fault("b 1 1 1;l 1 0 1;b 1 1 1;", 10);
    }

    private static void firstFault() {
        check.sentence("the first TOKEN that can't stand there, of two");
        fault("b ; x", 2);
        fault("b 10 0 0", 2);
        fault("b 1 0 10;", 4);
        fault("b 1 1 x", 6);
        fault("b 1 x 100", 4);
        fault("l 0 100 x", 2);
        fault("b 1 1 1;l 0 3 21;", 12);
        fault("b 1 1 1;l 1 3 21;", 10);
        fault("7 x", 0);
        fault("; b 1 1 1", 0);
        check.sentence("the first TOKEN that can't stand there, ahead of what is no TOKEN at all");
        fault("b 10 x", 2);
        fault("b 1 4 x;", 4);
        fault("b 1 1 10 100;", 6);
        fault("l 0 x", 2);
        fault("; x", 0);
        fault("b 1 1 1;b 1 1 1;b 1 1 1;b 1 1 1;b 01", 32);
        fault("b 1 1 1;l 0 3 021;", 12);
        fault("b b x", 2);
        check.sentence("what is no TOKEN at all, ahead of the first TOKEN that can't stand there");
        fault("b x 10", 2);
        fault("b 100 4 0;", 2);
        fault("b 01 b", 2);
        fault("x ;", 0);
    }

    private static void toldAgain() {
        check.sentence("l: told again: the later");
        tells("b 1 3 1;l 0 6 20;l 0 1 3;", 3, "1 3 1 3 1 ;");
        tells("b 1 3 1;l 0 6 20;l 0 6 20;", 3, "1 3 1 20 6 ;");
        tells("b 1 3 1;l 0 6 20;l 0 0 0;", 3, "1 3 1 0 0 ;");
        tells("b 1 3 1;l 0 6 20;b 2 1 2;l 1 2 1;l 0 5 0;", 5, "1 3 1 0 5 ; 2 1 2 1 2 ;");
    }

    private static void toldAnew() {
        check.sentence("BLOCKS told anew: these alone are there; IMAGES stay");
        RestingBlocks x = check.told("b 0 1 1;b 0 1 2;l 1 2 7;");
        x.keep(0);
        Check.typed(x, "b 0 1 1;");
        check.due("tells() of as many as told before", x.tells(), 1);
        check.due("blocks", Check.blocks(x), "0 1 1 0 0 ;");
        check.due("back(0)", x.back(0), 2);
        check.due("blocks", Check.blocks(x), "0 1 1 0 0 ; 0 1 2 7 2 ;");
        check.sentence("DONE: a text told, were it the same BLOCKS");
        Check.typed(x, "b 0 1 1;b 0 1 2;l 1 2 7;");
        check.due("tells() of the same", x.tells(), 3);
        check.due("count(5)", x.count(5), 1);
        check.due("undo()", x.undo(), 0);
        check.due("blocks", Check.blocks(x), "0 1 1 0 0 ; 0 1 2 7 2 ;");
        check.sentence("it may be that it does not REST then");
        check.due("rests()", check.told("b 3 1 1;b 4 3 1;").rests(), 0);
    }
}
