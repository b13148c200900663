/** Boundary cases of promises 9, 10 and 18: clues, and which of them to drop. */
public final class BoundsOfCluesTest extends Bounds {
    /** One play: chair 0 leads s1, chair 1 plays s0. */
    private static final String TWO_CARDS = "n2t1:s0s1-f0l0k0b?";
    /** Either may have led: two plays. */
    private static final String TWO_IN_ANY_ORDER = "n2t1:s0s1-f0l0k1b?";
    /** Chair 0 led s1, s0, h1, h0 or h0, h1, s0, s1: two plays, in which each holds the same. */
    private static final String FREE_BY_TURNS = "n2t2:s0s1h0h1-f1l1k1b0";
    private static final String BY_SUITS = "s0s1;h0h1";

    public static void main(String[] args) {
        numbersOfClues();
        cluesThatTheGameHasNot();
        cluesAreFull();
        whatCluesLet();
        whatCluesLetOfOnePlay();
        forgetting();
        drops();
        end();
    }

    private static void numbersOfClues() {
        sentence(0, "CLUES 0 .. 5, as they come, are of KINDS");
        beyondAheadOfNot("clue of kind", 0, 3, (x, kind) -> x.clue(kind, 0, 1, 0));
        sentence(9, "HELD (0: CHAIR a, CARD b)");
        beyondAheadOfNot("held by", 0, 3, (x, a) -> x.clue(0, a, 1, 0));
        beyondAheadOfNot("held card", 0, 15, (x, b) -> x.clue(0, 0, b, 0));
        sentence(9, "LED (1: CHAIR a, TRICK b)");
        beyondAheadOfNot("led by", 0, 3, (x, a) -> x.clue(1, a, 0, 0));
        beyondAheadOfNot("led trick", 0, 3, (x, b) -> x.clue(1, 0, b, 0));
        sentence(9, "EARLIER (2: CARD a, CARD b)");
        beyondAheadOfNot("earlier card", 0, 15, (x, a) -> x.clue(2, a, 7, 0));
        beyondAheadOfNot("later card", 0, 15, (x, b) -> x.clue(2, 7, b, 0));
        sentence(9, "LACKED (3: CHAIR a, SUIT b, TRICK c)");
        beyondAheadOfNot("lacked by", 0, 3, (x, a) -> x.clue(3, a, 0, 0));
        beyondAheadOfNot("lacked suit", 0, 3, (x, b) -> x.clue(3, 0, b, 0));
        beyondAheadOfNot("lacked at trick", 0, 3, (x, c) -> x.clue(3, 0, 0, c));
        sentence(9, "c is 0 but for the last");
        for (int kind = 0; kind < 3; kind++) {
            int of = kind;
            beyondAheadOfNot("c of kind " + kind, 0, 0, (x, c) -> x.clue(of, 0, 1, c));
        }
        sentence(0, "a CARD was played in an earlier TRICK than another one");
        for (int card = 0; card < 16; card++) {
            int same = card;
            refused(Standing.NOTHING, "earlier than itself", x -> x.clue(2, same, same, 0), BAD);
            refused(Standing.ALL, "earlier than itself", x -> x.clue(2, same, same, 0), BAD);
        }
    }

    private static void cluesThatTheGameHasNot() {
        sentence(9, "BAD; NOT: there is no GAME");
        int[][] hasNot = {{0, 3, 0, 0}, {0, 0, 3, 0}, {0, 0, 15, 0}, {1, 3, 0, 0}, {1, 0, 2, 0}, {1, 0, 3, 0}, {2, 3, 0, 0},
            {2, 0, 3, 0}, {2, 15, 0, 0}, {2, 0, 15, 0}, {3, 3, 0, 0}, {3, 0, 0, 2}, {3, 0, 0, 3}};
        for (int[] c : hasNot) {
            String name = "clue " + c[0] + " " + c[1] + " " + c[2] + " " + c[3];
            refused(Standing.SHEETS, name, x -> x.clue(c[0], c[1], c[2], c[3]), NOT);
            refused(Standing.ALL, name, x -> x.clue(c[0], c[1], c[2], c[3]), BAD);
            sentence(0, "of several the first that a call names");
            refused(Standing.FULL, name, x -> x.clue(c[0], c[1], c[2], c[3]), BAD);
            sentence(0, "what the GAME, THE TABLE have not is BAD behind it");
        }
        // the last chair, card and trick of the game, and suits that its pack has not
        int[][] has = {{0, 2, 11, 0}, {1, 2, 1, 0}, {2, 11, 0, 0}, {2, 0, 11, 0}, {3, 2, 3, 1}, {3, 0, 3, 0}};
        for (int[] c : has) {
            due("clue " + c[0], Standing.ALL.make().clue(c[0], c[1], c[2], c[3]), 2);
        }
    }

    private static void cluesAreFull() {
        sentence(9, "its number");
        LastTrick x = with(TWO_CARDS);
        for (int number = 0; number < 6; number++) {
            due("clue " + number, x.clue(0, 0, 0, 0), number);
            due("so many", x.count(0), number + 1);
        }
        sentence(9, "FULL: 6");
        due("the seventh", x.clue(0, 0, 0, 0), FULL);
        due("six", x.count(0), 6);
        for (int kind = 0; kind < 4; kind++) {
            int of = kind;
            refused(Standing.FULL, "the seventh, of kind " + kind, o -> o.clue(of, 0, 1, 0), FULL);
        }
        refused(Standing.FULL, "the seventh, not as told", o -> o.clue(4, 0, 1, 0), BAD);
        x.forget();
        due("there is room again", x.clue(0, 0, 0, 0), 0);
    }

    private static void lets(int kind, int a, int b, int c, int plays) {
        LastTrick x = with(FREE_BY_TURNS, BY_SUITS);
        x.clue(kind, a, b, c);
        due("plays by clue " + kind + " " + a + " " + b + " " + c, x.plays(), plays);
    }

    private static void whatCluesLet() {
        sentence(0, "0 HELD: a CHAIR held a CARD");
        lets(0, 0, 1, 0, 2);
        lets(0, 1, 1, 0, 0);
        sentence(0, "1 LED: a CHAIR led TRICK k (0 ..)");
        lets(1, 0, 0, 0, 2);
        lets(1, 1, 0, 0, 0);
        lets(1, 1, 1, 0, 2);
        lets(1, 0, 1, 0, 0);
        sentence(0, "a CARD was played in an earlier TRICK than another one");
        lets(2, 1, 4, 0, 1);
        lets(2, 4, 1, 0, 1);
        // of one trick neither is earlier
        lets(2, 0, 1, 0, 0);
        lets(2, 1, 0, 0, 0);
        sentence(0, "3 LACKED: a CHAIR had no CARD of a SUIT when TRICK k began");
        // what is played in trick k was still held when it began, but not when the next one did
        lets(3, 0, 0, 0, 0);
        lets(3, 0, 0, 1, 1);
        lets(3, 0, 1, 1, 1);
        lets(3, 0, 2, 0, 2);
        lets(3, 1, 3, 1, 2);
    }

    /** Of four chairs, each won by the last: no other play leaves its table. */
    private static LastTrick withOnePlay() {
        return with("n4t3:s0h1s1s2d2d0c1d3h0c2h3s3-f1l0k0b1", "s0h1s1s2;;h0c2s3h3;d2d0c1d3");
    }

    private static void whatCluesLetOfOnePlay() {
        // chair 1 leads s0, chair 0 wins and leads d2, chair 3 wins and leads h0, chair 2 wins
        int[] cards = {0, 5, 1, 2, 10, 8, 13, 11, 4, 14, 3, 7};
        int[] players = {1, 2, 3, 0, 0, 1, 2, 3, 3, 0, 1, 2};
        LastTrick x = withOnePlay();
        due("one play", x.plays(), 1);
        for (int i = 0; i < 12; i++) {
            due("card " + i, x.first(i), cards[i]);
        }
        for (int chair = 0; chair < 4; chair++) {
            for (int k = 0; k < 3; k++) {
                sentence(0, "1 LED: a CHAIR led TRICK k (0 ..)");
                letsOne(1, chair, k, 0, players[4 * k] == chair);
                sentence(0, "3 LACKED: a CHAIR had no CARD of a SUIT when TRICK k began");
                for (int suit = 0; suit < 4; suit++) {
                    boolean none = true;
                    for (int i = 4 * k; i < 12; i++) {
                        none &= players[i] != chair || cards[i] / 4 != suit;
                    }
                    letsOne(3, chair, suit, k, none);
                }
            }
        }
        for (int i = 0; i < 12; i++) {
            sentence(0, "0 HELD: a CHAIR held a CARD");
            for (int chair = 0; chair < 4; chair++) {
                letsOne(0, chair, cards[i], 0, players[i] == chair);
            }
            sentence(0, "a CARD was played in an earlier TRICK than another one");
            for (int j = 0; j < 12; j++) {
                if (i != j) {
                    letsOne(2, cards[i], cards[j], 0, i / 4 < j / 4);
                }
            }
        }
    }

    private static void letsOne(int kind, int a, int b, int c, boolean lets) {
        LastTrick x = withOnePlay();
        due("clue", x.clue(kind, a, b, c), 0);
        String name = "by clue " + kind + " " + a + " " + b + " " + c;
        due("plays " + name, x.plays(), lets ? 1 : 0);
        due("drops " + name, x.drops(), lets ? 0 : 1);
    }

    private static void forgetting() {
        sentence(10, "All CLUES go: how many.");
        due("none", new LastTrick().forget(), 0);
        due("none of a game", with(TWO_CARDS).forget(), 0);
        LastTrick x = Standing.FULL.make();
        due("six", x.forget(), 6);
        due("none is left", x.count(0), 0);
        due("none goes", x.forget(), 0);
        due("as without clues", x.plays(), Standing.TABLE.make().plays());
        due("the first again", x.clue(0, 0, 0, 0), 0);
        refused(Standing.TABLE, "forget", LastTrick::forget, 0);
    }

    private static void drops() {
        sentence(18, "NOT; NONE: there is none without CLUES");
        for (Standing standing : WITHOUT_TABLE) {
            refused(standing, "drops", LastTrick::drops, NOT);
        }
        LastTrick x = withoutPlay();
        due("without clues", x.drops(), NONE);
        x.clue(1, 1, 0, 0);
        due("with one", x.drops(), NONE);
        due("it stays", x.count(0), 1);
        sentence(18, "The fewest CLUES to drop so that there is a PLAY");
        x = with(TWO_CARDS, "s1s0;");
        due("no clues", x.drops(), 0);
        for (int number = 0; number < 5; number++) {
            x.clue(0, 0, 1, 0);
        }
        due("none need go", x.drops(), 0);
        x.clue(0, 1, 1, 0);
        due("the last of six", x.drops(), 32);
        due("all stay", x.count(0), 6);
        x.forget();
        for (int number = 0; number < 6; number++) {
            x.clue(0, 1, 1, 0);
        }
        due("all six", x.drops(), 63);
        sentence(18, "of like ones the least bits");
        leastBits("01", 1);
        leastBits("10", 1);
        leastBits("0011", 3);
        leastBits("1001", 6);
        leastBits("010101", 21);
        // one is fewer than two, though its bits are more
        leastBits("001", 4);
        leastBits("110", 4);
    }

    /** Clues that one chair or the other led the only trick; either may have. */
    private static void leastBits(String chairs, int bits) {
        LastTrick x = with(TWO_IN_ANY_ORDER, "s0s1;");
        for (char chair : chairs.toCharArray()) {
            x.clue(1, chair - '0', 0, 0);
        }
        due("led by " + chairs, x.drops(), bits);
    }
}
