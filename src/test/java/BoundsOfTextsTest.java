/** Boundary cases of promises 1 to 4, and of what the terms say of the texts of games and tables. */
public final class BoundsOfTextsTest extends Bounds {
    private static final String LEAST_GAME = "n2t1:s0s1-f0l0k0b?";
    private static final String TWELVE = "s0s1s2s3h0h1h2h3d0d1d2d3";
    private static final String FOUR_CARDS = "n2t2:s0s1h0h1-f0l0k0b?";
    private static final long BLANKS = 0x2020202020202020L;

    public static void main(String[] args) {
        newObject();
        bytesOfType();
        tapeIsFull();
        sizes();
        packs();
        laws();
        ends();
        pieces();
        blanks();
        whatGamesEnd();
        faultsOfGames();
        tapeBehindTables();
        heaps();
        unseen();
        faultsOfTables();
        end();
    }

    private static void newObject() {
        sentence(1, "No GAME, no TABLE.");
        LastTrick x = new LastTrick();
        due("told", x.told(0), NOT);
        due("heap", x.heap(0, -1), NOT);
        due("plays", x.plays(), NOT);
        sentence(0, "nothing (at first)");
        for (int sheet = 0; sheet < 4; sheet++) {
            due("drop " + sheet, new LastTrick().drop(sheet), NULL);
        }
        sentence(0, "An object is used for at most 512 calls after it has been made");
        x = with(FOUR_CARDS, "s1s0;h0h1");
        for (int calls = 7; calls < 511; calls++) {
            due("plays", x.plays(), 1);
        }
        due("call 512", x.first(3), 5);
    }

    private static void bytesOfType() {
        sentence(2, "The n lowest bytes (1 .. 8) of w");
        for (Standing standing : new Standing[] {Standing.NOTHING, Standing.TYPED}) {
            beyond(standing, "type", 1, 8, (x, n) -> x.type(BLANKS, n));
        }
        for (int n = 1; n <= 8; n++) {
            due("type " + n, new LastTrick().type(BLANKS, n), n);
            // what lies above them is not looked at
            long above = n == 8 ? 0 : 7L << 8 * n;
            due("type " + n + ", others above", new LastTrick().type(BLANKS >>> 64 - 8 * n | above, n), n);
        }
        sentence(2, "of these the highest first");
        LastTrick x = new LastTrick();
        x.type('n' << 8 | '2', 2);
        due("n2", x.game(), -22);
        x.type('2' << 8 | 'n', 2);
        due("2n", x.game(), -20);
        sentence(2, "come behind THE TAPE: how many it has");
        due("the first", x.type('n', 1), 1);
        due("the next", x.type('2', 1), 2);
        due("n2", x.game(), -22);
        sentence(2, "BAD: n, a byte not 32 .. 126");
        for (int i = 0; i < 8; i++) {
            long others = BLANKS & ~(0xFFL << 8 * i);
            for (long b : new long[] {0, 31, 127, 128, 255}) {
                long w = others | b << 8 * i;
                refused(i == 0 ? Standing.TYPED : Standing.NOTHING, "byte " + b + " at " + i, o -> o.type(w, 8), BAD);
            }
            due("byte 32 at " + i, new LastTrick().type(others | 32L << 8 * i, 8), 8);
            due("byte 126 at " + i, new LastTrick().type(others | 126L << 8 * i, 8), 8);
        }
    }

    private static LastTrick typed(int bytes) {
        LastTrick x = new LastTrick();
        Texts.type(x, " ".repeat(bytes));
        return x;
    }

    private static void tapeIsFull() {
        sentence(2, "FULL: 80");
        for (int n = 1; n <= 8; n++) {
            due("up to 80 by " + n, typed(80 - n).type(BLANKS, n), 80);
            due("up to 81 by " + n, typed(81 - n).type(BLANKS, n), FULL);
            int by = n;
            refused(Standing.FULL, "type " + n, x -> x.type(BLANKS, by), FULL);
        }
        LastTrick x = typed(79);
        due("two more", x.type(BLANKS, 2), FULL);
        due("one more", x.type(BLANKS, 1), 80);
        due("it ends there", x.game(), -100);
        sentence(0, "of several the first that a call names");
        refused(Standing.FULL, "a byte 31 where all is full", o -> o.type(31, 1), BAD);
        refused(Standing.FULL, "nine bytes where all is full", o -> o.type(BLANKS, 9), BAD);
    }

    private static void stands(String text, int cards) {
        due("game " + text, Texts.game(new LastTrick(), text), cards);
    }

    private static void fault(String text, int place) {
        due("game " + text, Texts.game(new LastTrick(), text), -20 - place);
    }

    private static String game(int chairs, int tricks) {
        return "n" + chairs + "t" + tricks + ":" + TWELVE.substring(0, 2 * chairs * tricks) + "-f0l0k0b?";
    }

    private static void sizes() {
        sentence(0, "CHAIRS (2 .. 4)");
        for (char c : new char[] {'0', '1', '5', '9', '/', ':', '?', '-'}) {
            fault("n" + c + "t1:s0s1-f0l0k0b?", 1);
        }
        for (int chairs = 2; chairs <= 4; chairs++) {
            stands(game(chairs, 1), chairs);
        }
        sentence(0, "TRICKS (1 .. 4)");
        for (char c : new char[] {'0', '5', '9', '/', ':', '?', '-'}) {
            fault("n2t" + c + ":s0s1-f0l0k0b?", 3);
        }
        for (int tricks = 1; tricks <= 4; tricks++) {
            stands(game(2, tricks), 2 * tricks);
        }
        sentence(0, "CHAIRS times TRICKS 12 at most");
        stands(game(3, 4), 12);
        stands(game(4, 3), 12);
        sentence(0, "of TRICKS by which CHAIRS are too many the digit");
        fault("n4t4:" + TWELVE + "c0c1c2c3-f0l0k0b?", 3);
        fault("n4t4", 3);
        fault("n4 t  4", 6);
    }

    private static void packs() {
        sentence(0, "CARDS are 0 .. 15: 4 SUIT and RANK, together");
        for (int card = 0; card < 16; card++) {
            String name = "shdc".charAt(card / 4) + "" + card % 4;
            LastTrick x = with("n2t1:" + name + (card == 0 ? "s1" : "s0") + "-f0l0k0b?");
            due("the pack with " + name, x.told(2), 1 << card | (card == 0 ? 2 : 1));
        }
        sentence(0, "SUITS s h d c (0 .. 3), RANKS 0 .. 3 (3 beats 2, and so on)");
        for (char c : new char[] {'a', 'b', 'e', 'g', 'i', 'r', 't', 'S', 'H', 'D', 'C', '0', '+', '?'}) {
            fault("n2t1:" + c + "0s1-f0l0k0b?", 5);
        }
        for (char c : new char[] {'4', '9', '/', ':', 's', '?', '-'}) {
            fault("n2t1:s" + c + "h1-f0l0k0b?", 6);
        }
        sentence(0, "a PACK of just so many CARDS");
        fault("n2t2:s0s1h0-f0l0k0b?", 11);
        stands("n2t2:s0s1h0h1-f0l0k0b?", 4);
        fault("n2t2:s0s1h0h1d0-f0l0k0b?", 13);
        fault("n2t2:-f0l0k0b?", 5);
        sentence(0, "of one that is too many its first byte");
        fault("n2t1:s0s1d0-f0l0k0b?", 9);
        // it was there too, but that is told of its rank
        fault("n2t1:s0s1s0-f0l0k0b?", 9);
        sentence(0, "CARDS (a SUIT, a RANK each; no two alike)");
        fault("n2t1:s0s0-f0l0k0b?", 8);
        fault("n4t3:" + TWELVE.substring(0, 22) + "s0-f0l0k0b?", 28);
        sentence(0, "of a CARD that was there, or is not in the PACK, its RANK");
        fault("n2t2:s0s1h0s1-f0l0k0b?", 12);
    }

    private static void laws() {
        sentence(0, "TRUMP (a SUIT, or none)");
        String suits = "shdc";
        for (int suit = 0; suit < 4; suit++) {
            due("trump", with("n2t1:s0s1+" + suits.charAt(suit) + "f0l0k0b?").told(3), suit);
        }
        sentence(0, "+ and a SUIT, or - (no TRUMP)");
        due("none", with(LEAST_GAME).told(3), NONE);
        fault("n2t1:s0s1+-f0l0k0b?", 10);
        fault("n2t1:s0s1+0f0l0k0b?", 10);
        fault("n2t1:s0s1sf0l0k0b?", 9);
        fault("n2t1:s0s1-sf0l0k0b?", 10);
        sentence(0, "FOLLOW (0 .. 2), LEADS (0, 1), KEPT (0, 1)");
        digits("n2t1:s0s1-f", "l0k0b?", 2, 4);
        digits("n2t1:s0s1-f0l", "k0b?", 1, 5);
        digits("n2t1:s0s1-f0l0k", "b?", 1, 6);
        sentence(0, "who BEGINS (a CHAIR, or it is not known)");
        for (int chairs = 2; chairs <= 4; chairs++) {
            String text = game(chairs, 1);
            digits(text.substring(0, text.length() - 1), "", chairs - 1, 7);
            due("not known", with(text).told(7), NONE);
        }
        fault("n2t1:s0s1-f0l0k0b-", 17);
    }

    /** A digit of a text: from 0 to the most it stands and is told; what lies around does not. */
    private static void digits(String ahead, String behind, int most, int what) {
        for (int digit = 0; digit <= most; digit++) {
            due(ahead + digit, with(ahead + digit + behind).told(what), digit);
        }
        for (char c : new char[] {'/', (char) ('1' + most), '9', ':', 's'}) {
            fault(ahead + c + behind, ahead.length());
        }
    }

    private static void ends() {
        String[] texts = {LEAST_GAME, "n3t4:" + TWELVE + "+cf2l1k1b2", "n4t3:" + TWELVE + "-f1l0k0b3"};
        for (String text : texts) {
            sentence(0, "the end: how many bytes there are");
            for (int end = 0; end < text.length(); end++) {
                fault(text.substring(0, end), end);
            }
            sentence(0, "FAULTS: -20 less the place of the first byte (blanks do not count) that can't stand there");
            for (int i = 0; i < text.length(); i++) {
                fault(text.substring(0, i) + "!" + text.substring(i), i);
                fault(text.substring(0, i) + "!!!", i);
            }
            fault(text + "0", text.length());
            fault(text + "   ~ ", text.length() + 3);
        }
    }

    /** Pieces that are left out, though an object that has read a game before could know them. */
    private static void pieces() {
        sentence(0, "FAULTS: -20 less the place of the first byte (blanks do not count) that can't stand there");
        String[] pieces = {"n2", "t2", ":", "s0s1h0h1", "+d", "f0", "l0", "k0", "b?"};
        String whole = String.join("", pieces);
        int place = 0;
        for (int i = 0; i < pieces.length; i++) {
            int behind = place;
            for (int j = i; j < pieces.length; j++) {
                behind += pieces[j].length();
                String text = whole.substring(0, place) + whole.substring(behind);
                fault(text, place);
                LastTrick x = with(whole);
                due("behind a game: " + text, Texts.game(x, text), -20 - place);
            }
            place += pieces[i].length();
        }
        for (int i = 0; i < whole.length(); i++) {
            fault(whole.substring(0, i) + whole.substring(i + 1), i);
        }
        fault("n" + whole.substring(5), 1);
        fault("n2t" + whole.substring(5), 3);
        sentence(0, "TRUMP (a SUIT, or none)");
        LastTrick x = with(whole);
        due("a game without trump behind one that has it", Texts.game(x, FOUR_CARDS), 4);
        due("none", x.told(3), NONE);
        due("a game that is begun by 1", Texts.game(x, "n2t2:s0s1h0h1-f0l0k0b1"), 4);
        due("one of which it is not known", Texts.game(x, FOUR_CARDS), 4);
        due("not known", x.told(7), NONE);
    }

    private static void blanks() {
        sentence(0, "FAULTS: -20 less the place of the first byte (blanks do not count) that can't stand there");
        String text = "n2t2:s0s1h0h1+df0l0k0b?";
        String wide = text.replaceAll(".", " $0 ");
        stands(wide, 4);
        stands(text + " ".repeat(80 - text.length()), 4);
        stands(" ".repeat(80 - text.length()) + text, 4);
        for (int i = 0; i < text.length(); i++) {
            fault(wide.substring(0, 3 * i) + " !", 3 * i + 1);
        }
        sentence(0, "the end: how many bytes there are");
        for (int i = 0; i < text.length(); i++) {
            fault(wide.substring(0, 3 * i), 3 * i);
            fault(wide.substring(0, 3 * i) + "    ", 3 * i + 4);
        }
        fault(" ".repeat(80), 80);
        fault(" ", 1);
        fault("", 0);
    }

    private static void whatGamesEnd() {
        sentence(3, "CARDS of the PACK");
        stands(game(2, 1), 2);
        stands(game(4, 3), 12);
        sentence(3, "THE TAPE, which is empty then, is a GAME");
        LastTrick x = Standing.ALL.make();
        due("game", Texts.game(x, LEAST_GAME), 2);
        due("nothing on the tape", x.game(), -20);
        due("the first byte", x.type('n', 1), 1);
        sentence(3, "(no TABLE, no CLUES, no ROW then)");
        x = Standing.ALL.make();
        // the same game once more: all else goes even so
        due("game", Texts.game(x, Standing.GAME_TEXT), 6);
        due("no table", x.heap(0, -1), NOT);
        due("no unseen cards", x.count(1), 0);
        due("no plays", x.plays(), NOT);
        due("no clues", x.count(0), 0);
        due("none goes", x.forget(), 0);
        due("no row", x.count(2), NONE);
        due("nobody plays", x.who(0, 0), NOT);
    }

    private static void faultsOfGames() {
        sentence(3, "A FAULT (all stays)");
        String[] texts = {"", " ", "x", "n2t1:s0s1-f0l0k0b", "n2t1:s0s1-f0l0k0b?!", "n4t3:" + TWELVE + "+sf2l1k1b4"};
        int[] places = {0, 1, 0, 17, 18, 38};
        for (Standing standing : new Standing[] {Standing.NOTHING, Standing.GAME, Standing.TABLE, Standing.ROW, Standing.ALL}) {
            for (int i = 0; i < texts.length; i++) {
                String text = texts[i];
                refused(standing, "game " + text, x -> Texts.game(x, text), -20 - places[i]);
            }
        }
    }

    private static void tapeBehindTables() {
        sentence(4, "THE TAPE, which is empty then, is THE TABLE");
        LastTrick x = with(FOUR_CARDS, "s1s0;h0h1");
        due("the first byte", x.type('s', 1), 1);
        due("a fault", x.table(), -21);
        due("the first byte behind a fault", x.type('s', 1), 1);
        sentence(4, "NOT: there is no GAME");
        for (String text : new String[] {"", "s0s1;", FOUR_CARDS, " ".repeat(80)}) {
            refused(Standing.NOTHING, "table " + text, o -> Texts.table(o, text), NOT);
        }
        due("without a game", Standing.SHEETS.make().table(), NOT);
        x = Standing.SHEETS.make();
        x.table();
        due("the tape is empty even so", x.game(), -20);
        sentence(4, "a FAULT (THE TABLE stays)");
        String[] texts = {"", "  ", "x", "s0s1s2h0h1d3", "s0s1s2h0h1d3;;;", "s0s1s2h0h1d3;;s0", "s0s1;", "????"};
        int[] places = {0, 2, 0, 12, 14, 14, 4, 3};
        for (Standing standing : new Standing[] {Standing.GAME, Standing.TABLE, Standing.ROW, Standing.ALL}) {
            for (int i = 0; i < texts.length; i++) {
                String text = texts[i];
                refused(standing, "table " + text, o -> Texts.table(o, text), -20 - places[i]);
            }
        }
    }

    private static void stands(String game, String text, int unseen) {
        due("table " + text, Texts.table(with(game), text), unseen);
    }

    private static void fault(String game, String text, int place) {
        due("table " + text, Texts.table(with(game), text), -20 - place);
    }

    private static void heaps() {
        sentence(0, "for each CHAIR, with ; between, its HEAP");
        stands(FOUR_CARDS, "s0s1h0h1;", 0);
        stands(FOUR_CARDS, ";s0s1h0h1", 0);
        fault(FOUR_CARDS, "s0s1h0h1", 8);
        fault(FOUR_CARDS, "s0s1h0h1;;", 9);
        fault(FOUR_CARDS, ";;s0s1h0h1", 1);
        stands(game(4, 3), TWELVE + ";;;", 0);
        stands(game(4, 3), ";;;" + TWELVE, 0);
        fault(game(4, 3), ";;" + TWELVE, 26);
        fault(game(4, 3), ";;;;" + TWELVE, 3);
        sentence(0, "of a HEAP that has no whole TRICKS the byte behind it");
        fault(FOUR_CARDS, "s0;s1h0h1", 2);
        fault(FOUR_CARDS, "s0s1h0;h1", 6);
        fault(FOUR_CARDS, "s0", 2);
        fault(FOUR_CARDS, "s0s1;h0", 7);
        fault(FOUR_CARDS, "s0  ; s1h0h1", 4);
        fault(FOUR_CARDS, "s0  ", 4);
        fault(FOUR_CARDS, "?;s1h0h1", 1);
        fault(game(3, 2), "s0s1s2s3;;", 8);
        fault(game(4, 2), "s0s1s2s3;h0h1h2;h3;", 15);
        sentence(0, "if the TABLE has too few, the end");
        fault(FOUR_CARDS, ";", 1);
        fault(FOUR_CARDS, "s0s1;", 5);
        fault(FOUR_CARDS, ";s0s1", 5);
        fault(FOUR_CARDS, ";s0s1  ", 7);
        fault(game(4, 3), "s0s1s2s3;;;h0h1h2h3", 19);
        sentence(0, "each HEAP has whole TRICKS, all together the PACK (what is UNSEEN is what lacks)");
        due("what lacks", with(FOUR_CARDS, "s1s0;h0?").under(1, 1), 1 << 5);
        sentence(0, "FAULTS: -20 less the place of the first byte (blanks do not count) that can't stand there");
        String text = "s1s0;h0?";
        for (int i = 0; i <= text.length(); i++) {
            fault(FOUR_CARDS, text.substring(0, i) + "!" + text.substring(i), i);
            fault(FOUR_CARDS, text.substring(0, i).replaceAll(".", " $0") + "  !", 2 * i + 2);
        }
        stands(FOUR_CARDS, " s 1s  0 ; h0 ?  ", 1);
        sentence(0, "the end: how many bytes there are");
        for (int i = 0; i < text.length(); i++) {
            fault(FOUR_CARDS, text.substring(0, i), i);
            fault(FOUR_CARDS, text.substring(0, i) + "   ", i + 3);
        }
    }

    private static void unseen() {
        sentence(4, "how many CARDS are UNSEEN");
        stands(FOUR_CARDS, "s0s1;h0h1", 0);
        stands(FOUR_CARDS, "s0s1;h0?", 1);
        stands(FOUR_CARDS, "?s1;h0?", 2);
        sentence(0, "UNSEEN (3 at most)");
        stands(FOUR_CARDS, "??;h0?", 3);
        stands(LEAST_GAME, "??;", 2);
        sentence(0, "a fourth ? can't");
        fault(FOUR_CARDS, "??;??", 4);
        fault(FOUR_CARDS, "????;", 3);
        fault(game(4, 3), "???s0;???s1;???s2;", 6);
        fault(game(3, 2), "? ? ? s0 s1 s2 ; ? ", 17);
    }

    private static void faultsOfTables() {
        sentence(0, "of a CARD that was there, or is not in the PACK, its RANK");
        fault(FOUR_CARDS, "s0s0;h0h1", 3);
        fault(FOUR_CARDS, "s0s1;h0s0", 8);
        fault(FOUR_CARDS, "s2s1;h0h1", 1);
        fault(FOUR_CARDS, "s0s1;h0c3", 8);
        fault(FOUR_CARDS, "s0s1;h0 c 3", 10);
        fault(FOUR_CARDS, "s0s4;h0h1", 3);
        fault(FOUR_CARDS, "s0s/;h0h1", 3);
        fault(FOUR_CARDS, "s0x1;h0h1", 2);
        // without a rank
        fault(FOUR_CARDS, "s0s1s;h0h1", 5);
        fault(FOUR_CARDS, "s0s1;h0h", 8);
        fault(FOUR_CARDS, "s0s;h0h1", 3);
        sentence(0, "of one that is too many its first byte");
        fault(FOUR_CARDS, "s0s1h0h1d0;", 8);
        fault(FOUR_CARDS, "s0s1;h0h1s0", 9);
        fault(FOUR_CARDS, "s0s1;h0h1?", 9);
        fault(FOUR_CARDS, "s0s1;h0h1 s", 10);
        fault(LEAST_GAME, "s0s1?;", 4);
        fault(game(4, 3), TWELVE + "c0;;;", 24);
    }
}
