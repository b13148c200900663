/** Boundary cases of promises 5 to 8: what is told of a game, what is set in it, heaps, who wins a trick. */
public final class BoundsOfGamesTest extends Bounds {
    private static final String FOUR_CHAIRS = "n4t3:s0s1s2s3h0h1h2h3d0d1d2d3-f0l0k0b?";
    private static final String FOUR_OF_FOUR_SUITS = "n4t2:s0h0d0c0s3h3d3c3-f0l0k0b?";

    public static void main(String[] args) {
        telling();
        setting();
        settingChairs();
        settingEndsRows();
        heaps();
        heapsThatAreNot();
        numbersOfWins();
        cardsOfWins();
        roundTheTable();
        whatBeats();
        end();
    }

    private static void telling() {
        sentence(5, "BAD; NOT: there is none");
        beyondAheadOfNot("told", 0, 7, LastTrick::told);
        refused(Standing.SHEETS, "told", x -> x.told(0), NOT);
        sentence(5, "0 CHAIRS, 1 TRICKS, 2 PACK (bits)");
        int[][] sizes = {{2, 1}, {2, 4}, {3, 4}, {4, 1}, {4, 3}};
        for (int[] size : sizes) {
            int cards = size[0] * size[1];
            String pack = "s0s1s2s3h0h1h2h3d0d1d2d3c0c1c2c3".substring(32 - 2 * cards);
            LastTrick x = with("n" + size[0] + "t" + size[1] + ":" + pack + "-f0l0k0b?");
            due("chairs", x.told(0), size[0]);
            due("tricks", x.told(1), size[1]);
            due("pack", x.told(2), 0xFFFF & ~((1 << 16 - cards) - 1));
        }
        sentence(5, "3 TRUMP (NONE)");
        due("none", with("n2t1:s0s1-f0l0k0b0").told(3), NONE);
        due("the first", with("n2t1:s0s1+sf0l0k0b0").told(3), 0);
        due("the last", with("n2t1:s0s1+cf0l0k0b0").told(3), 3);
        sentence(5, "4 FOLLOW, 5 LEADS, 6 KEPT");
        LastTrick x = with("n2t1:s0s1-f2l1k1b0");
        due("follow", x.told(4), 2);
        due("leads", x.told(5), 1);
        due("kept", x.told(6), 1);
        sentence(5, "7 who BEGINS (NONE: not known)");
        due("not known", with("n4t1:s0s1s2s3-f0l0k0b?").told(7), NONE);
        due("the first", with("n4t1:s0s1s2s3-f0l0k0b0").told(7), 0);
        due("the last", with("n4t1:s0s1s2s3-f0l0k0b3").told(7), 3);
    }

    /** From low to high it becomes so; beyond it stays, ahead of NOT too. */
    private static void settable(int what, int low, int high) {
        beyondAheadOfNot("set " + what, low, high, (x, v) -> x.set(what, v));
        LastTrick x = with(FOUR_CHAIRS);
        for (int v = low; v <= high; v++) {
            due("set " + what + " to " + v, x.set(what, v), 1);
            due("it is " + v, x.told(what), v < 0 ? NONE : v);
        }
    }

    private static void setting() {
        sentence(6, "TRUMP (3; -1: none)");
        settable(3, -1, 3);
        sentence(6, "FOLLOW (4), LEADS (5), KEPT (6)");
        settable(4, 0, 2);
        settable(5, 0, 1);
        settable(6, 0, 1);
        sentence(6, "BEGINS (7; -1: not known)");
        settable(7, -1, 3);
        sentence(6, "BAD; NOT: there is no GAME");
        for (int what : new int[] {-1, 0, 1, 2, 8, LEAST, MOST}) {
            for (int v : new int[] {-1, 0, 1, 2}) {
                refused(Standing.NOTHING, "set " + what + " to " + v, x -> x.set(what, v), BAD);
                refused(Standing.ALL, "set " + what + " to " + v, x -> x.set(what, v), BAD);
            }
        }
        for (int what = 3; what <= 7; what++) {
            int law = what;
            refused(Standing.SHEETS, "set " + what, x -> x.set(law, 0), NOT);
        }
    }

    private static void settingChairs() {
        sentence(0, "what the GAME, THE TABLE have not is BAD behind it");
        refused(Standing.NOTHING, "begins 3", x -> x.set(7, 3), NOT);
        refused(Standing.ALL, "begins 3 of three", x -> x.set(7, 3), BAD);
        due("begins 2 of three", Standing.ALL.make().set(7, 2), 1);
        LastTrick x = with("n2t1:s0s1-f0l0k0b0");
        due("begins 2 of two", x.set(7, 2), BAD);
        due("begins 3 of two", x.set(7, 3), BAD);
        due("as it was", x.told(7), 0);
        due("begins 1 of two", x.set(7, 1), 1);
        // suits that no card of the pack has are suits
        due("trump c", x.set(3, 3), 1);
    }

    private static void settingEndsRows() {
        sentence(6, "becomes v (no ROW then): 1");
        for (int what = 3; what <= 7; what++) {
            LastTrick x = Standing.ALL.make();
            int was = x.told(what);
            due("to what it was", x.set(what, was == NONE ? -1 : was), 1);
            due("no row", x.count(2), NONE);
            due("nobody plays", x.who(0, 0), NOT);
            due("the table stays", x.heap(0, 1), 2);
            due("clues stay", x.count(0), 2);
            due("as it was", x.told(what), was);
        }
        LastTrick x = with("n2t2:s0s1h0h1-f0l0k0b0", "s1h0h1s0;");
        due("by the first law", x.plays(), 0);
        x.set(4, 1);
        due("by the new one", x.plays(), 1);
        x.set(7, 1);
        due("by another that begins", x.plays(), 0);
    }

    private static void heaps() {
        sentence(7, "CARD i of a HEAP (NONE: UNSEEN), or how many it has (i -1)");
        LastTrick x = with(FOUR_CHAIRS, ";d3s1s2s3h0h1h2h3d0d1?s0;;");
        int[] sizes = {0, 12, 0, 0};
        for (int chair = 0; chair < 4; chair++) {
            due("how many " + chair + " has", x.heap(chair, -1), sizes[chair]);
        }
        due("the first", x.heap(1, 0), 11);
        due("unseen", x.heap(1, 10), NONE);
        due("the last, card 0", x.heap(1, 11), 0);
        x = with("n2t1:s0c3-f0l0k0b?", ";s0c3");
        due("card 15", x.heap(1, 1), 15);
    }

    private static void heapsThatAreNot() {
        sentence(7, "BAD; NOT: there is no TABLE");
        beyondAheadOfNot("heap", 0, 3, (x, chair) -> x.heap(chair, 0));
        beyondAheadOfNot("heap 0", -1, 11, (x, i) -> x.heap(0, i));
        for (Standing standing : new Standing[] {Standing.SHEETS, Standing.GAME, Standing.ROW}) {
            refused(standing, "heap", x -> x.heap(0, -1), NOT);
            refused(standing, "heap 3 of three", x -> x.heap(3, 11), NOT);
        }
        sentence(0, "what the GAME, THE TABLE have not is BAD behind it");
        refused(Standing.ALL, "heap 3 of three", x -> x.heap(3, -1), BAD);
        refused(Standing.ALL, "card 3 of three", x -> x.heap(0, 3), BAD);
        refused(Standing.ALL, "card 0 of an empty heap", x -> x.heap(2, 0), BAD);
        due("card 2 of three", Standing.ALL.make().heap(0, 2), 1);
        LastTrick x = with("n2t1:s0s1-f0l0k0b?", "s0s1;");
        // what lay there in a larger table is gone
        Texts.read(x, FOUR_CHAIRS, "s0s1s2s3h0h1h2h3d0d1d2d3;;;");
        Texts.read(x, "n2t1:s0s1-f0l0k0b?", ";s0s1");
        due("heap 0 is empty now", x.heap(0, -1), 0);
        due("card 0 of it", x.heap(0, 0), BAD);
        due("heap 2 of two", x.heap(2, -1), BAD);
        due("heap 3 of two", x.heap(3, 0), BAD);
    }

    private static void numbersOfWins() {
        sentence(8, "4 CARDS as digits in sixteens");
        beyondAheadOfNot("wins", 0, 0xFFFF, (x, cards) -> x.wins(cards, 0));
        sentence(8, "NOT: there is no GAME");
        beyondAheadOfNot("wins, led by", 0, 3, (x, leader) -> x.wins(0x3210, leader));
        refused(Standing.SHEETS, "wins", x -> x.wins(0x210, 0), NOT);
        sentence(0, "what the GAME, THE TABLE have not is BAD behind it");
        refused(Standing.GAME, "led by 3 of three", x -> x.wins(0x210, 3), BAD);
        due("led by 2 of three", Standing.GAME.make().wins(0x210, 2), 1);
        due("led by 2 of two", with("n2t1:s0s1-f0l0k0b?").wins(0x10, 2), BAD);
        sentence(8, "(the one that is led lowest; of fewer CHAIRS the lowest ones)");
        LastTrick x = with("n2t1:s0h3-f0l0k0b?");
        due("s0 is led", x.wins(0x70, 0), 0);
        due("h3 is led", x.wins(0x07, 0), 0);
        due("two of two chairs, others above", x.wins(0xFF07, 1), 1);
        due("twice above", x.wins(0x7707, 1), 1);
        x = with("n3t1:s0s1s2-f0l0k0b?");
        due("three of three chairs", x.wins(0x210, 0), 2);
        due("others above", x.wins(0xF210, 0), 2);
    }

    private static void cardsOfWins() {
        sentence(8, "BAD: also a CARD that is not in the PACK, twice");
        LastTrick x = with(FOUR_CHAIRS);
        int lawful = 0x3210;
        due("lawful", x.wins(lawful, 0), 3);
        for (int i = 0; i < 4; i++) {
            int others = lawful & ~(15 << 4 * i);
            for (int card = 12; card < 16; card++) {
                due("card " + card + " at " + i, x.wins(others | card << 4 * i, 0), BAD);
            }
            for (int j = 0; j < 4; j++) {
                due("card " + j + " at " + i, x.wins(others | j << 4 * i, 0), i == j ? 3 : BAD);
            }
        }
        refused(Standing.ALL, "not in the pack", o -> o.wins(0x310, 0), BAD);
        refused(Standing.ALL, "twice", o -> o.wins(0x101, 0), BAD);
        x = with("n2t1:s0c3-f0l0k0b?");
        due("cards 0 and 15", x.wins(0x0F, 1), 1);
    }

    private static void roundTheTable() {
        sentence(0, "the next CHAIR first (0 behind the last)");
        for (int chairs = 2; chairs <= 4; chairs++) {
            LastTrick x = with("n" + chairs + "t1:" + "s0s1s2s3".substring(0, 2 * chairs) + "-f0l0k0b?");
            for (int leader = 0; leader < chairs; leader++) {
                for (int top = 0; top < chairs; top++) {
                    int cards = 0;
                    for (int j = chairs - 1; j >= 0; j--) {
                        cards = cards << 4 | (j == top ? chairs - 1 : j < top ? j : j - 1);
                    }
                    due(chairs + " chairs, " + top + " behind " + leader, x.wins(cards, leader), (leader + top) % chairs);
                }
            }
        }
    }

    private static void whatBeats() {
        sentence(0, "SUITS s h d c (0 .. 3), RANKS 0 .. 3 (3 beats 2, and so on)");
        for (int suit = 0; suit < 4; suit++) {
            String s = "shdc".substring(suit, suit + 1);
            LastTrick x = with("n2t2:" + s + "0" + s + "1" + s + "2" + s + "3-f0l0k0b?");
            for (int a = 0; a < 4; a++) {
                for (int b = 0; b < 4; b++) {
                    if (a != b) {
                        due(s + a + s + b, x.wins((4 * suit + b) << 4 | 4 * suit + a, 0), a > b ? 0 : 1);
                    }
                }
            }
        }
        sentence(0, "It is won by the highest TRUMP in it, if there is one, else by the highest CARD of the SUIT that was led.");
        LastTrick x = with(FOUR_OF_FOUR_SUITS);
        due("no trump: s0 against higher suits", x.wins(0xFB70, 0), 0);
        due("c0 against higher ranks", x.wins(0xB73C, 0), 0);
        for (int trump = 0; trump < 4; trump++) {
            x.set(3, trump);
            due("trump " + trump + " is the least of its suit", x.wins(0xC840, 0), trump);
            due("two trumps", x.wins((4 * trump + 3) << 8 | 4 * trump << 4 | 4 * ((trump + 1) % 4) | 4 * ((trump + 2) % 4) << 12, 1), 3);
            due("trump is led", x.wins(4 * trump | (4 * ((trump + 1) % 4) + 3) << 4 | (4 * ((trump + 2) % 4) + 3) << 8
                | (4 * ((trump + 3) % 4) + 3) << 12, 2), 2);
        }
        x.set(3, 1);
        due("no trump in it: the highest of the suit led", x.wins(0x3B80, 0), 3);
    }
}
