/** Each promise of the document by hand: ordinary inputs, the edges that it names, wrong inputs. */
public final class PromisesTest {
    private static final int BAD = -1, NOT = -2, FULL = -3, NONE = -4, NULL = -11, CAST = -12, INDEX = -13, SIZE = -14;
    private static final int LEAST = Integer.MIN_VALUE, MOST = Integer.MAX_VALUE;
    private static int wrong = 0;
    private static int asked = 0;
    private static int promise = 0;

    public static void main(String[] args) {
        newObject();
        typing();
        games();
        tables();
        telling();
        setting();
        heaps();
        winning();
        clues();
        forgetting();
        plays();
        holding();
        beneath();
        tricks();
        firsts();
        fewest();
        drops();
        turned();
        others();
        rows();
        leaving();
        who();
        best();
        knowing();
        counting();
        images();
        sheets();
        System.out.println(asked + " answers, " + wrong + " wrong");
        if (wrong != 0) {
            System.exit(1);
        }
    }

    private static void due(String call, long got, long want) {
        asked++;
        if (got != want) {
            wrong++;
            System.out.println("promise " + promise + ": " + call + " answered " + got + ", due is " + want);
        }
    }

    private static int game(LastTrick x, String text) {
        return Texts.game(x, text);
    }

    private static int table(LastTrick x, String text) {
        return Texts.table(x, text);
    }

    private static LastTrick with(String game) {
        LastTrick x = new LastTrick();
        int cards = game(x, game);
        if (cards < 0) {
            due("game " + game, cards, 0);
        }
        return x;
    }

    private static LastTrick with(String game, String table) {
        LastTrick x = with(game);
        int unseen = table(x, table);
        if (unseen < 0) {
            due("table " + table, unseen, 0);
        }
        return x;
    }

    private static int row(LastTrick x, int begins, String cards) {
        return Texts.row(x, begins, cards);
    }

    private static void newObject() {
        promise = 1;
        LastTrick x = new LastTrick();
        due("told", x.told(0), NOT);
        due("heap", x.heap(0, -1), NOT);
        due("table", x.table(), NOT);
        due("plays", x.plays(), NOT);
        due("who", x.who(0, 0), NOT);
        due("clues", x.count(0), 0);
        due("unseen", x.count(1), 0);
        due("won", x.count(2), NONE);
        due("restore", x.restore(), NONE);
        due("drop", x.drop(0), NULL);
        due("empty tape", x.game(), -20);
    }

    private static void typing() {
        promise = 2;
        LastTrick x = new LastTrick();
        for (int n : new int[] {0, -1, 9, LEAST, MOST}) {
            due("type n " + n, x.type(0x2020202020202020L, n), BAD);
        }
        due("type 31", x.type(31, 1), BAD);
        due("type 127", x.type(127, 1), BAD);
        due("type 0", x.type(0, 1), BAD);
        due("type 128", x.type(128, 1), BAD);
        due("type -1", x.type(-1L, 8), BAD);
        due("the highest of two", x.type(0x1F41, 2), BAD);
        due("the highest of eight", x.type(0x1F41414141414141L, 8), BAD);
        due("a byte above", x.type(0x1F41, 1), 1);
        due("type 32", x.type(32, 1), 2);
        due("type 126", x.type(126, 1), 3);
        due("game takes it", x.game(), -20);
        due("highest first", x.type(0x6E32, 2), 2);
        due("it reads n2", x.game(), -22);
        for (int i = 1; i <= 9; i++) {
            due("eights", x.type(0x2020202020202020L, 8), 8 * i);
        }
        due("seven", x.type(0x2020202020202020L, 7), 79);
        due("over", x.type(0x2020, 2), FULL);
        due("bad ahead of full", x.type(0x2007, 2), BAD);
        due("the last", x.type(0x20, 1), 80);
        due("full", x.type(0x20, 1), FULL);
        due("full, eight", x.type(0x2020202020202020L, 8), FULL);
        due("blanks alone", x.game(), -100);
        due("empty then", x.type(0x20, 1), 1);
        due("no clue", x.clue(0, 0, 0, 0), NOT);
        due("no law", x.set(4, 1), NOT);
        due("no row", x.row(0, 0, 0, 0), NOT);
        due("no others", x.others(-1), NOT);
        due("no clues go", x.forget(), 0);
        due("a sheet", x.sheet(0, 0, 4), 4);
        due("other calls leave it", x.type(0x20, 1), 2);
    }

    private static void games() {
        promise = 3;
        LastTrick x = new LastTrick();
        String[] faults = {"", "0", "x", "0", "n", "1", "n1", "1", "n5", "1", "n2", "2", "n2x", "2", "n2t", "3", "n2t0", "3",
            "n2t5", "3", "n3t4", "4", "n4t3", "4", "n4t4:", "3", "n2t1:", "5", "n2t1:s", "6", "n2t1:s4", "6",
            "n2t1:x0", "5", "n2t1:s0s0", "8", "n2t1:s0-", "7", "n2t1:s0s1s1", "9", "n2t1:s0s1c3", "9", "n2t1:s0s1+", "10",
            "n2t1:s0s1+-", "10", "n2t1:s0s1-g", "10", "n2t1:s0s1-f", "11", "n2t1:s0s1-f3", "11", "n2t1:s0s1-f0f", "12",
            "n2t1:s0s1-f0l2", "13", "n2t1:s0s1-f0l0l", "14", "n2t1:s0s1-f0l0k2", "15", "n2t1:s0s1-f0l0k0", "16",
            "n2t1:s0s1-f0l0k0b", "17", "n2t1:s0s1-f0l0k0b2", "17", "n2t1:s0s1-f0l0k0b-", "17",
            "n2t1:s0s1-f0l0k0b?s", "18", "n2t1:s0s1+df0l0k0b00", "19", " n 2 x", "5", "n  2 t 1 : s 0   s 0", "19",
            " ", "1", "   x", "3", " n 2  ", "6", "n4t 4", "4", "N2", "0", "n2t1:S0", "5",
            "s0s1-f0l0k0b?", "0", "n2s0s1-f0l0k0b?", "2", "n2ts0s1-f0l0k0b?", "3", "n2t1s0s1-f0l0k0b?", "4",
            "n2t1:s0s1-b?", "10", "n2t1:s0s1-f0b?", "12", "n2t1:s0s1-f0l0b?", "14", "n2t1:s0s1f0l0k0b?", "9", "n2t1:s0s1+f0l0k0b?", "10"};
        for (int i = 0; i < faults.length; i += 2) {
            int place = Integer.parseInt(faults[i + 1]);
            due("game " + faults[i], game(x, faults[i]), -20 - place);
            due("no game", x.told(0), NOT);
            for (int blanks = 1; blanks <= 3; blanks++) {
                String text = spread(faults[i], blanks);
                due("game " + text, game(x, text), -20 - placeIn(text, blanks, faults[i], place));
            }
        }
        due("the least", game(x, "n2t1:s0s1-f0l0k0b?"), 2);
        due("two of four", game(x, "n2t4:c3c2c1c0s0s1h2d2+df2l1k1b1"), 8);
        due("three of four", game(x, "n3t4:s0s1s2s3h0h1h2h3d0d1d2d3-f1l0k0b2"), 12);
        due("four of three", game(x, "n4t3:s0s1s2s3h0h1h2h3d0d1d2d3-f1l0k0b3"), 12);
        due("blanks", game(x, "  n 2t1  : s0 h 3 + c f0l0 k0b 1  "), 2);
        due("pack", x.told(2), 1 | 1 << 7);
        table(x, "s0h3;");
        x.clue(0, 0, 0, 0);
        due("row", row(x, 1, "s0h3"), NONE);
        due("a fault", game(x, "n2t1:s0s1-f0l0k0b?!"), -38);
        due("all stays: game", x.told(2), 1 | 1 << 7);
        due("all stays: table", x.heap(0, -1), 2);
        due("all stays: clues", x.count(0), 1);
        due("all stays: row", x.count(2), 0);
        due("the tape is empty", x.type('n', 1), 1);
        x.game();
        due("a game", game(x, "n2t1:s0s1-f0l0k0b?"), 2);
        due("no table", x.heap(0, -1), NOT);
        due("no clues", x.count(0), 0);
        due("no row", x.count(2), NONE);
        due("no unseen", x.count(1), 0);
    }

    private static void tables() {
        promise = 4;
        LastTrick x = new LastTrick();
        Texts.type(x, "n2t1:s0s1-f0l0k0b?");
        due("no game", x.table(), NOT);
        due("the tape is empty", x.type('n', 1), 1);
        due("no game still", x.table(), NOT);
        due("nothing to read", x.game(), -20);
        due("no game again", x.table(), NOT);
        due("a game", game(x, "n2t1:s0s1-f0l0k0b?"), 2);
        x = with("n2t2:s0s1h0h1-f0l0k0b?");
        String[] faults = {"", "0", ";", "1", ";;", "1", "s0s1h0h1", "8", "s0s1;", "5", "s0s1;h0", "7", "s0s1;h0;", "7",
            "s0s1;h0h1;", "9", "s0s1;h0h1s0", "9", "s0;s1h0h1", "2", "s0s1h0;h1", "6", "s0s0", "3", "s0s2", "3", "d0", "1",
            "s0x", "2", "s", "1", "sx", "1", "????", "3", "s0???;?", "6", "s0?;???", "6", "??;??", "4", "x", "0", "s0s1;h0h1x", "9",
            "s 0 s 1 ; h 0 d", "15", " ", "1", "s0  ;s1h0h1", "4", "s0s1 ;h0h1 x", "11", "-", "0", "s0s1,", "4",
            "s0s1s;h0h1", "5", "s0s1;h0h1s", "9", "s0s1;h0s", "8"};
        for (int i = 0; i < faults.length; i += 2) {
            int place = Integer.parseInt(faults[i + 1]);
            due("table " + faults[i], table(x, faults[i]), -20 - place);
            due("no table", x.heap(0, -1), NOT);
            for (int blanks = 1; blanks <= 3; blanks++) {
                String text = spread(faults[i], blanks);
                due("table " + text, table(x, text), -20 - placeIn(text, blanks, faults[i], place));
            }
        }
        due("a table", table(x, "s1s0;h0h1"), 0);
        due("a fault", table(x, "s1s0;h0h2"), -28);
        due("it stays", x.heap(0, 0), 1);
        due("the tape is empty", x.type('s', 1), 1);
        x.table();
        due("three", table(x, "?? ; s0 ?"), 3);
        due("one heap", table(x, ";s0s1h0h1"), 0);
        due("clue", x.clue(0, 0, 0, 0), 0);
        due("row", row(x, 0, "s1s0h0h1"), NONE);
        due("another", table(x, "s0s1h0?;"), 1);
        due("clues stay", x.count(0), 1);
        due("the row stays", x.count(2), 1);
    }

    /** A text with blanks ahead of each byte, and behind the last one. */
    private static String spread(String text, int blanks) {
        String gap = " ".repeat(blanks);
        StringBuilder b = new StringBuilder();
        for (char c : text.toCharArray()) {
            b.append(gap).append(c);
        }
        return b.append(gap).toString().substring(0, Math.min(80, (blanks + 1) * text.length() + blanks));
    }

    /** Where the byte at a place lies when a text is spread; the end lies behind all blanks. */
    private static int placeIn(String spread, int blanks, String text, int place) {
        return place < text.length() ? Math.min(spread.length(), (blanks + 1) * place + blanks) : spread.length();
    }

    private static void telling() {
        promise = 5;
        LastTrick x = new LastTrick();
        for (int what : new int[] {-1, 8, LEAST, MOST}) {
            due("told " + what, x.told(what), BAD);
        }
        due("told 7", x.told(7), NOT);
        game(x, "n3t2:s0h1d2c3s3c0+cf2l1k1b2");
        int[] laws = {3, 2, 1 | 1 << 5 | 1 << 10 | 1 << 15 | 1 << 3 | 1 << 12, 3, 2, 1, 1, 2};
        for (int what = 0; what < 8; what++) {
            due("told " + what, x.told(what), laws[what]);
        }
        due("told 8", x.told(8), BAD);
        game(x, "n2t1:s0s1-f0l0k0b?");
        due("no trump", x.told(3), NONE);
        due("not known", x.told(7), NONE);
    }

    private static void setting() {
        promise = 6;
        LastTrick x = new LastTrick();
        int[][] bad = {{0, 2}, {1, 1}, {2, 3}, {8, 0}, {-1, 0}, {3, -2}, {3, 4}, {4, -1}, {4, 3}, {5, -1}, {5, 2}, {6, -1},
            {6, 2}, {7, -2}, {7, 4}, {LEAST, 0}, {MOST, 0}, {4, MOST}, {7, LEAST}};
        for (int[] b : bad) {
            due("set " + b[0] + " " + b[1], x.set(b[0], b[1]), BAD);
        }
        due("no game", x.set(7, 3), NOT);
        x = with("n3t1:s0s1h0-f0l0k0b?", "s0s1h0;;");
        due("no such chair", x.set(7, 3), BAD);
        for (int[] b : bad) {
            due("set " + b[0] + " " + b[1], x.set(b[0], b[1]), BAD);
        }
        x.clue(1, 0, 0, 0);
        due("row", row(x, 0, "s0s1h0"), NONE);
        due("refused", x.set(4, 3), BAD);
        due("the row stays", x.count(2), 0);
        int[][] good = {{3, 3}, {3, -1}, {3, 0}, {4, 1}, {4, 2}, {4, 0}, {5, 1}, {5, 0}, {6, 1}, {6, 0},
            {7, 0}, {7, 2}, {7, -1}};
        for (int[] g : good) {
            due("set", x.set(g[0], g[1]), 1);
            due("told", x.told(g[0]), g[1] < 0 ? NONE : g[1]);
        }
        due("no row", x.count(2), NONE);
        due("clues stay", x.count(0), 1);
        due("the table stays", x.heap(0, 2), 4);
        due("row", row(x, 0, "s0s1h0"), NONE);
        due("the same", x.set(5, 1), 1);
        due("no row", x.who(0, 0), NOT);
        x = with("n2t1:s0s1-f0l0k0b?", ";s0s1");
        due("follows", x.plays(), 1);
        due("set", x.set(7, 1), 1);
        due("other begins", x.plays(), 0);
    }

    private static void heaps() {
        promise = 7;
        LastTrick x = new LastTrick();
        int[][] bad = {{-1, 0}, {4, 0}, {0, -2}, {0, 12}, {LEAST, 0}, {0, MOST}, {0, LEAST}};
        for (int[] b : bad) {
            due("heap", x.heap(b[0], b[1]), BAD);
        }
        due("no game", x.heap(3, 11), NOT);
        game(x, "n3t2:s0s1s2h0h1d3-f0l0k1b?");
        due("no table", x.heap(0, -1), NOT);
        table(x, "s0?s1;h0d3h1;");
        for (int[] b : bad) {
            due("heap", x.heap(b[0], b[1]), BAD);
        }
        int[] first = {3, 0, NONE, 1};
        for (int i = -1; i < 3; i++) {
            due("heap 0", x.heap(0, i), first[i + 1]);
        }
        due("heap 1", x.heap(1, 1), 11);
        due("beyond", x.heap(1, 3), BAD);
        due("empty", x.heap(2, -1), 0);
        due("of the empty", x.heap(2, 0), BAD);
        due("no such chair", x.heap(3, -1), BAD);
    }

    private static void winning() {
        promise = 8;
        LastTrick x = new LastTrick();
        due("no game", x.wins(0x3210, 0), NOT);
        due("no game, four digits", x.wins(0xFFFF, 3), NOT);
        due("no game, all 0", x.wins(0, 0), NOT);
        int[][] bad = {{-1, 0}, {0x10000, 0}, {0x3210, -1}, {0x3210, 4}, {LEAST, 0}, {MOST, 0}, {0x3210, MOST}};
        for (int[] b : bad) {
            due("wins", x.wins(b[0], b[1]), BAD);
        }
        x = with("n4t3:s0s1s2s3h0h1h2h3d0d1d2d3+df0l0k0b?");
        for (int[] b : bad) {
            due("wins", x.wins(b[0], b[1]), BAD);
        }
        due("the highest", x.wins(0x2310, 0), 2);
        due("led by 3", x.wins(0x2310, 3), 1);
        due("other suits lose", x.wins(0x7650, 2), 2);
        due("a trump", x.wins(0x8123, 1), 0);
        due("the highest trump", x.wins(0x8B9A, 0), 2);
        due("trump led", x.wins(0x3788, 0), BAD);
        due("not in the pack", x.wins(0xC123, 0), BAD);
        due("twice", x.wins(0x3113, 0), BAD);
        x = with("n2t1:s0s1-f0l0k0b?");
        due("the lowest ones", x.wins(0x10, 1), 0);
        due("others do not matter", x.wins(0xFF10, 0), 1);
        due("no such chair", x.wins(0x10, 2), BAD);
        due("twice", x.wins(0x11, 0), BAD);
        due("not in the pack", x.wins(0x20, 0), BAD);
    }

    private static void clues() {
        promise = 9;
        LastTrick x = new LastTrick();
        int[][] bad = {{-1, 0, 0, 0}, {4, 0, 0, 0}, {0, -1, 0, 0}, {0, 4, 0, 0}, {0, 0, 16, 0}, {0, 0, -1, 0}, {0, 0, 0, 1},
            {1, 4, 0, 0}, {1, 0, 4, 0}, {1, 0, -1, 0}, {1, 0, 0, 1}, {2, 16, 0, 0}, {2, 0, 16, 0}, {2, 0, 1, 1}, {2, -1, 0, 0},
            {3, 4, 0, 0}, {3, 0, 4, 0}, {3, 0, 0, 4}, {3, 0, 0, -1}, {2, 0, 0, 0}, {0, 0, 0, -1}, {LEAST, 0, 0, 0},
            {0, MOST, 0, 0}, {3, 0, LEAST, 0}};
        for (int[] b : bad) {
            due("clue", x.clue(b[0], b[1], b[2], b[3]), BAD);
        }
        due("no game", x.clue(0, 3, 15, 0), NOT);
        game(x, "n2t2:s0s1h0h1-f0l0k0b?");
        for (int[] b : bad) {
            due("clue", x.clue(b[0], b[1], b[2], b[3]), BAD);
        }
        int[][] lacks = {{0, 2, 0, 0}, {0, 0, 2, 0}, {1, 2, 0, 0}, {1, 0, 2, 0}, {2, 2, 0, 0}, {2, 0, 2, 0}, {3, 2, 0, 0},
            {3, 0, 0, 2}};
        for (int[] b : lacks) {
            due("the game has not", x.clue(b[0], b[1], b[2], b[3]), BAD);
        }
        due("held", x.clue(0, 1, 0, 0), 0);
        due("led", x.clue(1, 1, 1, 0), 1);
        due("earlier", x.clue(2, 0, 5, 0), 2);
        due("lacked, a suit that is not there", x.clue(3, 1, 3, 1), 3);
        due("the same", x.clue(0, 1, 0, 0), 4);
        due("sixth", x.clue(0, 0, 1, 0), 5);
        due("full", x.clue(0, 0, 1, 0), FULL);
        due("bad ahead of full", x.clue(0, 0, 2, 0), BAD);
        due("how many", x.count(0), 6);
        letPlays();
    }

    /** Two plays by free laws, which differ in the trick that came first; each clue lets both, one or none. */
    private static void letPlays() {
        String free = "n2t2:s0s1h0h1-f1l1k1b0";
        LastTrick x = with(free, "s0s1;h0h1");
        due("plays", x.plays(), 2);
        due("rows: s1 s0 h0 h1, h0 h1 s0 s1", x.first(0), 1);
        due("held", x.clue(0, 0, 1, 0), 0);
        due("one has it", x.plays(), 2);
        x.forget();
        x.clue(2, 1, 4, 0);
        due("earlier", x.plays(), 1);
        x.clue(2, 4, 1, 0);
        due("both", x.plays(), 0);
        x.forget();
        x.clue(1, 1, 1, 0);
        due("led", x.plays(), 2);
        x.clue(1, 1, 0, 0);
        due("led by another", x.plays(), 0);
        x.forget();
        x.clue(3, 0, 0, 1);
        due("lacked", x.plays(), 1);
        due("it is this", x.first(0), 1);
        x.forget();
        x.clue(3, 0, 0, 0);
        due("it had one", x.plays(), 0);
        x.forget();
        x.clue(2, 0, 1, 0);
        due("of one trick", x.plays(), 0);
    }

    private static void forgetting() {
        promise = 10;
        LastTrick x = new LastTrick();
        due("none", x.forget(), 0);
        x = with("n2t1:s0s1-f0l0k0b?", "s1s0;");
        x.clue(0, 1, 1, 0);
        x.clue(0, 1, 1, 0);
        due("no play", x.plays(), 0);
        due("two", x.forget(), 2);
        due("none left", x.count(0), 0);
        due("a play", x.plays(), 1);
        due("again", x.forget(), 0);
        due("numbers begin anew", x.clue(0, 0, 0, 0), 0);
    }

    private static void plays() {
        promise = 11;
        due("no table", with("n2t1:s0s1-f0l0k0b?").plays(), NOT);
        due("who leads", with("n2t1:s0s1-f0l0k0b?", ";s0s1").plays(), 1);
        due("kept in any order", with("n2t1:s0s1-f0l0k1b?", ";s0s1").plays(), 2);
        due("unlike suits: the leader wins", with("n2t1:s0h1-f0l0k1b?", ";s0h1").plays(), 2);
        due("one is under", with("n2t1:s0s1-f0l0k0b?", "?s0;").plays(), 1);
        due("both are under", with("n2t1:s0s1-f0l0k0b?", "??;").plays(), 2);
        due("which is where counts too", with("n2t1:s0s1-f0l0k1b?", "??;").plays(), 4);
        due("who won leads", with("n2t2:s0s1h0h1-f0l0k0b0", "s1s0;h0h1").plays(), 1);
        due("the next one leads", with("n2t2:s0s1h0h1-f0l1k0b0", "s1s0;h0h1").plays(), 0);
        due("each had one suit", with("n2t2:s0s1h0h1-f0l0k0b0", "s1h0s0h1;").plays(), 1);
        due("a breach", with("n2t2:s0s1h0h1-f0l0k0b0", "s1h0h1s0;").plays(), 0);
        due("free", with("n2t2:s0s1h0h1-f1l0k0b0", "s1h0h1s0;").plays(), 1);
        due("no trump has to be played", with("n2t2:s0h0h1d0+df0l0k0b0", "s0h1h0d0;").plays(), 0);
        due("a trump must be played", with("n2t2:s0h1d0c0+df2l0k0b0", "s0c0;h1d0").plays(), 0);
        due("by 0 not", with("n2t2:s0h1d0c0+df0l0k0b0", "s0c0;h1d0").plays(), 1);
        due("no trump, as 0", with("n2t2:s0h1d0c0-f2l0k0b0", "s0c0h1d0;").plays(), 1);
    }

    private static void holding() {
        promise = 12;
        LastTrick x = new LastTrick();
        for (int card : new int[] {-1, 16, LEAST, MOST}) {
            due("may " + card, x.may(card), BAD);
            due("sure " + card, x.sure(card), BAD);
        }
        due("no game", x.may(15), NOT);
        game(x, "n2t1:s0s1-f0l0k1b?");
        due("no table", x.may(2), NOT);
        table(x, ";s0s1");
        due("not in the pack", x.may(2), BAD);
        due("the loser", x.may(0), 1);
        due("the winner", x.may(1), 2);
        x = with("n2t1:s0h1-f0l0k1b?", ";s0h1");
        due("either", x.may(0), 3);
        promise = 13;
        due("no game", new LastTrick().sure(0), NOT);
        due("nobody", x.sure(0), NONE);
        due("not in the pack", x.sure(1), BAD);
        x.clue(0, 1, 5, 0);
        due("surely", x.sure(5), 1);
        due("so the other", x.sure(0), 0);
        x.clue(0, 0, 5, 0);
        due("no play", x.sure(5), NONE);
        due("no play", x.may(5), 0);
    }

    private static void beneath() {
        promise = 14;
        LastTrick x = new LastTrick();
        int[][] bad = {{-1, 0}, {4, 0}, {0, -1}, {0, 12}, {MOST, 0}, {0, LEAST}};
        for (int[] b : bad) {
            due("under", x.under(b[0], b[1]), BAD);
        }
        due("no game", x.under(3, 11), NOT);
        game(x, "n2t2:s0s1h0h1-f0l0k0b?");
        due("no table", x.under(0, 0), NOT);
        table(x, "?s0;h0?");
        for (int[] b : bad) {
            due("under", x.under(b[0], b[1]), BAD);
        }
        due("no such chair", x.under(2, 0), BAD);
        due("beyond", x.under(0, 2), BAD);
        due("seen", x.under(0, 1), NOT);
        due("s1, or h1, which only a chair that has no h plays to", x.under(0, 0), 1 << 1);
        due("h1", x.under(1, 1), 1 << 5);
        table(x, "??;?h1");
        due("either one", x.under(0, 0), 1 | 1 << 1);
        due("and the other", x.under(0, 1), 1 | 1 << 1);
        due("the last", x.under(1, 0), 1 << 4);
        x.set(7, 0);
        due("1 leads s0 then: 0 begins", x.under(0, 0), 1 | 1 << 1);
        x.clue(1, 0, 1, 0);
        due("0 leads twice", x.under(0, 0), 1 << 1);
        x.forget();
        x.set(7, -1);
        x.set(4, 1);
        x.set(5, 1);
        due("by free laws", x.under(0, 0), 1 | 1 << 1 | 1 << 4);
        x.clue(0, 0, 5, 0);
        x.clue(0, 1, 5, 0);
        due("no play", x.under(0, 0), 0);
        x = with("n2t2:s0s1h0h1-f0l0k0b?", "s1s0?h0;");
        table(x, "?s0;??");
        table(x, "s1s0;?h1");
        due("what lay there before does not count", x.under(1, 0), 1 << 4);
        table(x, "??;h0h1");
        due("other cards lack now", x.under(0, 0), 1 | 1 << 1);
    }

    private static void tricks() {
        promise = 15;
        LastTrick x = new LastTrick();
        int[][] bad = {{-1, 0}, {4, 0}, {0, -1}, {0, 2}, {MOST, 0}, {0, LEAST}};
        for (int[] b : bad) {
            due("trick", x.trick(b[0], b[1]), BAD);
        }
        due("no game", x.trick(3, 1), NOT);
        x = with("n2t2:s0s1h0h1-f0l0k0b?");
        due("no table", x.trick(2, 0), NOT);
        table(x, "s1s0;h0h1");
        due("the game has not", x.trick(2, 0), BAD);
        due("who led", x.trick(0, 0), 1);
        due("who won", x.trick(0, 1), 1);
        due("who led the second", x.trick(1, 0), 1);
        due("who won the second", x.trick(1, 1), 2);
        x = with("n2t1:s0s1-f0l0k1b?", "s0s1;");
        due("either led", x.trick(0, 0), 3);
        x.set(7, 1);
        due("it is known", x.trick(0, 0), 2);
    }

    private static void firsts() {
        promise = 16;
        LastTrick x = new LastTrick();
        for (int i : new int[] {-2, 12, LEAST, MOST}) {
            due("first", x.first(i), BAD);
        }
        due("no game", x.first(11), NOT);
        x = with("n2t1:s0s1-f0l0k1b?");
        due("no table", x.first(2), NOT);
        table(x, "s0s1;");
        due("beyond", x.first(2), BAD);
        int[] row = {0, 1, 0};
        for (int i = -1; i < 2; i++) {
            due("the least row", x.first(i), row[i + 1]);
        }
        x.clue(1, 1, 0, 0);
        int[] other = {1, 0, 1};
        for (int i = -1; i < 2; i++) {
            due("the other", x.first(i), other[i + 1]);
        }
        x.clue(1, 0, 0, 0);
        due("none", x.first(-1), NONE);
        due("bad ahead of none", x.first(2), BAD);
        x = with("n2t2:c3c2s0s1-f0l0k1b0", "s0c2s1c3;");
        int[] of = {0, 0, 14, 1, 15};
        for (int i = -1; i < 4; i++) {
            due("s0 c2 s1 c3", x.first(i), of[i + 1]);
        }
    }

    private static void fewest() {
        promise = 17;
        LastTrick x = new LastTrick();
        for (int chair : new int[] {-2, 4, LEAST, MOST}) {
            due("fewest", x.fewest(chair), BAD);
        }
        due("no game", x.fewest(3), NOT);
        x = with("n2t2:s0s1h0h1-f0l0k0b0");
        due("no table", x.fewest(-1), NOT);
        table(x, "s1h0s0h1;");
        due("the game has not", x.fewest(2), BAD);
        due("no breach: each has one suit", x.fewest(-1), 0);
        table(x, "s1h0h1s0;");
        due("chair 1 had s0", x.fewest(-1), 1);
        due("chair 0 makes none", x.fewest(0), 1);
        due("without chair 1 none", x.fewest(1), NONE);
        x.set(4, 1);
        due("free", x.fewest(1), 0);
        x.clue(0, 1, 1, 0);
        due("clues hold", x.fewest(-1), NONE);
        x = with("n2t2:s0h1d0c0+df2l0k0b0", "s0c0;h1d0");
        due("a trump must be played", x.fewest(-1), 1);
        due("by chair 1", x.fewest(1), NONE);
    }

    private static void drops() {
        promise = 18;
        due("no game", new LastTrick().drops(), NOT);
        LastTrick x = with("n2t1:s0s1-f0l0k1b?");
        due("no table", x.drops(), NOT);
        table(x, "s0s1;");
        due("no clues", x.drops(), 0);
        x.clue(1, 0, 0, 0);
        due("it lets a play", x.drops(), 0);
        x.clue(1, 1, 0, 0);
        due("either: the least bits", x.drops(), 1);
        x.clue(1, 1, 0, 0);
        due("one, not two", x.drops(), 1);
        x.clue(1, 0, 0, 0);
        x.clue(1, 0, 0, 0);
        due("two, not three", x.drops(), 6);
        x.clue(0, 0, 0, 0);
        due("it can't be at all", x.drops(), 32 | 6);
        due("nothing is dropped", x.count(0), 6);
        x = with("n2t1:s0h1-f0l0k0b1", "s0h1;");
        due("none without clues", x.drops(), NONE);
        x.clue(1, 0, 0, 0);
        due("nor with", x.drops(), NONE);
    }

    private static void turned() {
        promise = 19;
        due("no game", new LastTrick().turned(), NOT);
        LastTrick x = with("n2t2:s0s1h0h1-f0l0k0b0");
        due("no table", x.turned(), NOT);
        table(x, "s1s0;h0h1");
        due("heaps of one trick", x.turned(), 3);
        table(x, "s1h0s0h1;");
        due("either way", x.turned(), 3);
        x.clue(2, 1, 0, 0);
        due("heap 1 is empty: as it is", x.turned(), 2);
        x.forget();
        x.clue(2, 0, 1, 0);
        due("turned", x.turned(), 1);
        due("as it is", x.plays(), 0);
        x.clue(0, 1, 1, 0);
        due("no play at all", x.turned(), 0);
        x = with("n2t3:s0s1s2h0h1h2+hf0l0k0b0", "s0s1;s2h0h1h2");
        due("the last one first", x.turned(), 2);
    }

    private static void others() {
        promise = 20;
        LastTrick x = new LastTrick();
        due("bad", x.others(-2), BAD);
        due("bad", x.others(LEAST), BAD);
        due("there are thirty", x.others(30), BAD);
        due("there are thirty", x.others(MOST), BAD);
        due("no game", x.others(0), NOT);
        due("no game, the last", x.others(29), NOT);
        x = with("n2t1:s0h1-f0l0k0b0");
        due("no table", x.others(-1), NOT);
        table(x, "s0h1;");
        due("all but trump h", x.others(-1), 24);
        int i = 0;
        for (int number = 0; number < 30; number++) {
            if (number / 6 != 2) {
                due("others " + i, x.others(i), number);
                i++;
            }
        }
        due("not so many", x.others(24), NONE);
        due("not so many", x.others(29), NONE);
        due("there are thirty", x.others(30), BAD);
        due("there are thirty", x.others(MOST), BAD);
        x.set(3, 1);
        due("the game does not fit", x.plays(), 0);
        due("the others do", x.others(-1), 24);
        due("it is as it was", x.told(3), 1);
        x.clue(0, 1, 0, 0);
        due("clues hold", x.others(-1), 0);
        due("none", x.others(0), NONE);
    }

    private static void rows() {
        promise = 21;
        LastTrick x = new LastTrick();
        int[][] bad = {{-1, 0, 0, 0}, {4, 0, 0, 0}, {0, -1, 0, 0}, {0, 4, 0, 0}, {0, 0, -1, 0}, {0, 0, 3, 0}, {LEAST, 0, 0, 0},
            {0, MOST, 0, 0}, {0, 0, MOST, 0}};
        for (int[] b : bad) {
            due("row", x.row(b[0], b[1], b[2], b[3]), BAD);
        }
        due("no game", x.row(3, 3, 2, -5), NOT);
        game(x, "n2t2:s0s1h0h1-f0l0k0b0");
        for (int[] b : bad) {
            due("row", x.row(b[0], b[1], b[2], b[3]), BAD);
        }
        due("the game has not, ahead of null", x.row(2, 0, 0, 0), BAD);
        due("null ahead of cast, index", x.row(0, 0, 0, -1), NULL);
        x.sheet(0, 1, 6);
        due("cast ahead of index", x.row(0, 0, 2, -1), CAST);
        for (int from : new int[] {-1, 3, 6, LEAST, MOST, MOST - 3}) {
            due("index " + from, x.row(0, 0, 1, from), INDEX);
        }
        int[] items = {7, 1, 0, 4, 5, 300};
        for (int i = 0; i < 6; i++) {
            x.item(0, 1, i, items[i]);
        }
        due("not of the pack", x.row(0, 0, 1, 0), 0);
        due("no card", x.row(0, 0, 1, 2), 3);
        due("no row", x.who(0, 0), NOT);
        due("lawful", x.row(0, 0, 1, 1), NONE);
        due("who", x.who(2, 0), 0);
        due("was there", row(x, 0, "s1s0s1h2"), 2);
        due("strangers ahead of breaches", row(x, 0, "s1h0s0h2"), 3);
        due("a breach", row(x, 0, "s1h0h1s0"), 1);
        due("the row stays", x.who(1, 1), 0);
        due("other begins", row(x, 1, "s1s0h0h1"), NONE);
        due("who begins", x.who(0, 0), 1);
        due("no breach", row(x, 0, "s1h0s0h1"), NONE);
        x = with("n2t2:s0h1d0c0+df2l0k0b0");
        due("a trump must be played", row(x, 0, "s0c0h1d0"), 1);
        due("it is", row(x, 0, "s0d0c0h1"), NONE);
        x.set(4, 1);
        due("free", row(x, 0, "s0c0h1d0"), NONE);
        x = with("n2t1:s0c3-f0l0k0b0");
        x.sheet(2, 0, 2);
        x.item(2, 0, 0, 256 + 15);
        due("bytes: lowest bits", x.row(0, 2, 0, 0), NONE);
        x.sheet(2, 2, 2);
        x.item(2, 2, 0, 256 + 15);
        due("ints: all of them", x.row(0, 2, 2, 0), 0);
        x.item(2, 2, 0, 15);
        due("ints", x.row(0, 2, 2, 0), NONE);
        x.item(2, 2, 1, -16);
        due("below 0", x.row(0, 2, 2, 0), 1);
    }

    private static void leaving() {
        promise = 22;
        LastTrick x = new LastTrick();
        due("nothing", x.leaves(), NOT);
        game(x, "n2t2:s0s1h0h1-f0l0k0b0");
        row(x, 0, "s1s0h0h1");
        due("no table", x.leaves(), NOT);
        table(x, "s1s0;h0h1");
        due("it does", x.leaves(), NONE);
        table(x, "?s0;??");
        due("unseen are like any", x.leaves(), NONE);
        table(x, "s0s1;h0h1");
        due("another order", x.leaves(), 0);
        table(x, "s1s0;h1h0");
        due("of heap 1", x.leaves(), 1);
        table(x, "s1s0h0h1;");
        due("too many", x.leaves(), 0);
        table(x, ";s1s0h0h1");
        due("too few", x.leaves(), 0);
        x.set(6, 1);
        due("no row", x.leaves(), NOT);
        row(x, 0, "s1s0h0h1");
        table(x, "s0s1;h1h0");
        due("kept in any order", x.leaves(), NONE);
        table(x, "s0h1;s1h0");
        due("other tricks", x.leaves(), 0);
        row(x, 1, "s1s0h0h1");
        table(x, "h0h1;s0s1");
        due("who begins", x.leaves(), 4);
        table(x, "h0s1;h1s0");
        due("the heap ahead of it", x.leaves(), 0);
        x.set(7, -1);
        row(x, 1, "s1s0h0h1");
        table(x, "h0h1;s0s1");
        due("not known", x.leaves(), NONE);
    }

    private static void who() {
        promise = 23;
        LastTrick x = new LastTrick();
        int[][] bad = {{-1, 0}, {12, 0}, {0, -1}, {0, 2}, {MOST, 0}, {0, LEAST}};
        for (int[] b : bad) {
            due("who", x.who(b[0], b[1]), BAD);
        }
        due("no row", x.who(11, 1), NOT);
        game(x, "n3t2:s0s1s2h0h1d3-f0l0k0b?");
        due("no row", x.who(6, 1), NOT);
        due("row", row(x, 1, "s0s1s2h0h1d3"), NONE);
        due("beyond", x.who(6, 0), BAD);
        int[] players = {1, 2, 0, 0, 1, 2};
        int[] winners = {0, 0, 0, 1, 1, 1};
        for (int i = 0; i < 6; i++) {
            due("plays", x.who(i, 0), players[i]);
            due("wins", x.who(i, 1), winners[i]);
        }
        x.set(5, 1);
        row(x, 1, "s0s1s2h0h1d3");
        due("the chair behind leads", x.who(3, 0), 2);
        due("and so on", x.who(4, 0), 0);
        due("wins", x.who(3, 1), 0);
    }

    private static void best() {
        promise = 24;
        LastTrick x = new LastTrick();
        for (int place : new int[] {-1, 13, LEAST, MOST}) {
            due("best", x.best(place), BAD);
        }
        due("no row", x.best(12), NOT);
        game(x, "n2t2:s0s1s2s3-f0l0k0b?");
        due("no row", x.best(0), NOT);
        due("row", row(x, 0, "s0s1s3s2"), NONE);
        due("beyond", x.best(5), BAD);
        due("the end", x.best(4), 0);
        promise = 25;
        for (int place : new int[] {-1, 12, LEAST, MOST}) {
            due("falls", x.falls(place), BAD);
            due("falls, no row", new LastTrick().falls(place), BAD);
        }
        due("no row", with("n2t2:s0s1s2s3-f0l0k0b?").falls(11), NOT);
        due("beyond", x.falls(4), BAD);
        // chair 0 has s0 and s2, chair 1 s1 and s3: it wins one if it leads s0 and 1 takes it with s3
        row(x, 0, "s0s1s3s2");
        int[] best = {0, 0, 0, 0, 0};
        for (int i = 0; i < 5; i++) {
            due("best " + i, x.best(i), best[i]);
        }
        for (int i = 0; i < 4; i++) {
            due("falls " + i, x.falls(i), 0);
        }
        row(x, 0, "s0s3s1s2");
        int[] second = {0, 0, 1, 1, 0};
        for (int i = 0; i < 5; i++) {
            due("best " + i, x.best(i), second[i]);
        }
        due("chair 1 falls short", x.falls(1), 1);
        due("chair 0 does not", x.falls(0), 0);
        due("behind it neither", x.falls(2), 0);
        threeChairs();
    }

    /** Chairs 0 and 2 are one side against chair 1. */
    private static void threeChairs() {
        LastTrick x = with("n3t2:s0s1s2h0h1h2-f0l0k0b?");
        due("row", row(x, 0, "s1s2s0h2h0h1"), NONE);
        due("chair 1 won the first, and leads h2", x.count(2), 0);
        due("best", x.best(0), 0);
        due("row", row(x, 0, "h1h2h0s2s0s1"), NONE);
        due("nothing to choose", x.best(0), 0);
        due("row", row(x, 0, "h0h1h2s2s0s1"), NONE);
        due("side 0 wins both", x.best(0), 2);
        due("both", x.count(2), 2);
        due("row", row(x, 2, "s1s0s2h0h1h2"), NONE);
        for (int i = 0; i < 6; i++) {
            due("falls", x.falls(i) >= 0 ? 1 : 0, 1);
        }
    }

    private static void knowing() {
        promise = 26;
        LastTrick x = new LastTrick();
        int[][] bad = {{-1, 0}, {4, 0}, {0, -1}, {0, 4}, {MOST, 0}, {0, LEAST}};
        for (int[] b : bad) {
            due("knows", x.knows(b[0], b[1]), BAD);
        }
        due("no row", x.knows(3, 3), NOT);
        game(x, "n3t2:s0s1h0h1d0d1-f0l0k0b?");
        due("no row", x.knows(0, 2), NOT);
        // chair 0: s1 d0, chair 1: s0 d1, chair 2: h0 h1
        due("row", row(x, 0, "s1s0h0d0d1h1"), NONE);
        due("no such chair", x.knows(3, 0), BAD);
        due("no such trick", x.knows(0, 2), BAD);
        due("four cards, two each", x.knows(0, 0), 6);
        due("two cards, one each", x.knows(0, 1), 2);
        due("chair 2 saw them follow", x.knows(2, 1), 2);
        due("chair 1", x.knows(1, 1), 2);
        game(x, "n3t2:s0s1h0s2d0d1+df2l0k0b?");
        due("a breach", row(x, 0, "s1s0h0s2d1d0"), 2);
        due("row", row(x, 0, "s2s1d0d1h0s0"), NONE);
        due("chair 2 has no s, but a trump", x.knows(0, 1), 1);
        due("it may have h0", x.knows(1, 1), 2);
        due("the others followed", x.knows(2, 1), 2);
        game(x, "n3t2:s0s1s2h0h1d0+df2l0k0b?");
        due("row", row(x, 0, "s2s1h0d0s0h1"), NONE);
        due("chair 2 has no s and no trump", x.knows(1, 1), 1);
        x.set(4, 0);
        due("row", row(x, 0, "s2s1h0d0s0h1"), NONE);
        due("it may have a trump", x.knows(1, 1), 2);
        game(x, "n3t2:s0s1h0s2h1h2+df2l0k0b?");
        due("row", row(x, 0, "s2s1h0s0h1h2"), NONE);
        due("chair 1 has all else", x.knows(2, 1), 2);
        due("chair 2 has no s", x.knows(1, 1), 1);
        x.set(4, 1);
        due("row", row(x, 0, "s2s1h0s0h1h2"), NONE);
        due("free laws tell nothing", x.knows(1, 1), 2);
        game(x, "n4t3:s0s1s2s3h0h1h2h3d0d1d2d3-f1l0k0b?");
        due("row", row(x, 0, "s0s1s2s3h0h1h2h3d0d1d2d3"), NONE);
        due("nine cards, three each", x.knows(3, 0), 1680);
        due("six, two each", x.knows(3, 1), 90);
        due("three, one each", x.knows(3, 2), 6);
        game(x, "n2t4:s0s1s2s3h0h1h2h3-f1l0k0b?");
        due("row", row(x, 0, "s0s1s2s3h0h1h2h3"), NONE);
        due("one other has them all", x.knows(0, 0), 1);
        due("to the last", x.knows(1, 3), 1);
    }

    private static void counting() {
        promise = 27;
        LastTrick x = new LastTrick();
        for (int what : new int[] {-1, 3, LEAST, MOST}) {
            due("count", x.count(what), BAD);
        }
        game(x, "n4t2:s0s1s2s3h0h1h2h3-f0l0k0b?");
        table(x, "???s0;;h0h1h2h3;");
        x.clue(0, 0, 0, 0);
        due("clues", x.count(0), 1);
        due("unseen", x.count(1), 3);
        due("no row", x.count(2), NONE);
        due("row", row(x, 0, "s0s1s2s3h0h1h2h3"), NONE);
        due("chair 3, then chair 2", x.count(2), 1);
        x.forget();
        due("no clues", x.count(0), 0);
    }

    private static void images() {
        promise = 28;
        LastTrick x = new LastTrick();
        due("none", x.restore(), NONE);
        due("of nothing", x.image(), 1);
        game(x, "n2t2:s0s1h0h1-f0l0k0b0");
        promise = 29;
        due("restore", x.restore(), 1);
        due("no game", x.told(0), NOT);
        game(x, "n2t2:s0s1h0h1-f0l0k0b0");
        table(x, "s1s0;h0?");
        x.clue(0, 0, 1, 0);
        row(x, 0, "s1s0h0h1");
        x.sheet(0, 1, 5);
        due("image", x.image(), 1);
        due("plays", x.plays(), 1);
        x.set(4, 1);
        x.forget();
        x.clue(0, 1, 1, 0);
        due("other now", x.plays(), 0);
        table(x, "??;h0h1");
        x.sheet(0, 2, 7);
        Texts.type(x, "xyz");
        due("restore", x.restore(), 1);
        due("follow", x.told(4), 0);
        due("plays", x.plays(), 1);
        due("heap", x.heap(0, 0), 1);
        due("unseen", x.count(1), 1);
        due("clues", x.count(0), 1);
        due("row", x.who(3, 1), 1);
        due("best", x.best(0), 1);
        due("sheets stay", x.drop(0), 7);
        due("the tape stays", x.type('n', 1), 4);
        game(x, "n2t1:s0s1-f0l0k0b?");
        game(x, "n2t1:s0s1-f0l0k0b?");
        due("another game", x.told(1), 1);
        due("again", x.restore(), 1);
        due("tricks", x.told(1), 2);
        due("a new image", x.image(), 1);
        x.forget();
        due("restore", x.restore(), 1);
        due("clues", x.count(0), 1);
    }

    private static void sheets() {
        promise = 30;
        LastTrick x = new LastTrick();
        int[][] bad = {{-1, 0, 1}, {4, 0, 1}, {0, -1, 1}, {0, 3, 1}, {0, 0, 25}, {4, 0, -1}, {0, 3, -1}, {MOST, 0, 1},
            {0, 0, MOST}};
        for (int[] b : bad) {
            due("sheet", x.sheet(b[0], b[1], b[2]), BAD);
        }
        due("below 0", x.sheet(0, 0, -1), SIZE);
        due("far below", x.sheet(3, 2, LEAST), SIZE);
        due("no row", x.drop(0), NULL);
        due("empty", x.sheet(0, 0, 0), 0);
        due("the most", x.sheet(3, 2, 24), 24);
        promise = 31;
        for (int sheet : new int[] {-1, 4, LEAST, MOST}) {
            due("drop", x.drop(sheet), BAD);
        }
        due("nothing", x.drop(1), NULL);
        due("none", x.drop(0), 0);
        due("gone", x.drop(0), NULL);
        due("all", x.drop(3), 24);
        promise = 32;
        int[][] wrongItems = {{-1, 0, 0}, {4, 0, 0}, {0, -1, 0}, {0, 3, 0}, {LEAST, 0, 0}};
        for (int[] b : wrongItems) {
            due("item", x.item(b[0], b[1], b[2], 0), BAD);
        }
        due("nothing", x.item(0, 0, -1, 0), NULL);
        x.sheet(0, 1, 3);
        due("another lane", x.item(0, 0, -1, 0), CAST);
        for (int i : new int[] {-1, 3, LEAST, MOST}) {
            due("index", x.item(0, 1, i, 0), INDEX);
        }
        due("item", x.item(0, 1, 2, 5), 1);
        due("size 0", x.sheet(0, 1, 0), 0);
        due("index", x.item(0, 1, 0, 0), INDEX);
        game(x, "n2t1:s0s1-f0l0k0b?");
        int[] cut = {0x100, 0x10000, 0};
        int[] kept = {0x10001, 0x100, 0x10000};
        for (int lane = 0; lane < 3; lane++) {
            x.sheet(1, lane, 2);
            due("item", x.item(1, lane, 1, 1), 1);
            due("a new row is 0", x.row(0, 1, lane, 0), NONE);
            x.item(1, lane, 0, cut[lane]);
            due("cut to 0", x.row(0, 1, lane, 0), NONE);
            x.item(1, lane, 0, lane == 0 ? 2 : kept[lane]);
            due("not cut", x.row(0, 1, lane, 0), 0);
            x.item(1, lane, 0, kept[lane] & (lane == 0 ? -2 : 0));
            due("back", x.row(0, 1, lane, 0), NONE);
        }
        x.sheet(1, 2, 2);
        x.item(1, 2, 0, 1);
        x.item(1, 2, 1, 1);
        x.sheet(1, 2, 2);
        due("new rows are 0 again: s0 twice", x.row(0, 1, 2, 0), 1);
        x.item(1, 2, 0, 1);
        due("s1, s0", x.row(0, 1, 2, 0), NONE);
    }
}
