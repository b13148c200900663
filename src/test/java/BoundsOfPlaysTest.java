import java.util.Arrays;

/** Boundary cases of promises 11 to 17, 19 and 20: what is asked of plays. */
public final class BoundsOfPlaysTest extends Bounds {
    /** One play: chair 0 leads s1, chair 1 plays s0. */
    private static final String TWO_CARDS = "n2t1:s0s1-f0l0k0b?";
    /** Either may have led: two plays. */
    private static final String TWO_IN_ANY_ORDER = "n2t1:s0s1-f0l0k1b?";
    /** Of each trick any card can have been led, and wins. */
    private static final String FOUR_SUITS = "n4t3:s0h0d0c0s1h1d1c1s2h2d2c2-f1l0k1b?";

    public static void main(String[] args) {
        plays();
        unlikePlays();
        orderOfHeaps();
        whoLeads();
        inAnyOrder();
        anew();
        may();
        sure();
        under();
        underEachOther();
        underWhatIsNot();
        tricks();
        firsts();
        fewest();
        fewestOfFour();
        fewestByEither();
        turned();
        turnedAlone();
        others();
        numbersOfOthers();
        end();
    }

    private static void plays() {
        sentence(11, "NOT: there is no TABLE");
        for (Standing standing : WITHOUT_TABLE) {
            refused(standing, "plays", LastTrick::plays, NOT);
        }
        sentence(11, "How many PLAYS there are");
        due("none", withoutPlay().plays(), 0);
        due("one", with(TWO_CARDS, "s1s0;").plays(), 1);
        due("three tricks in any order", with(FOUR_SUITS, "s0h0d0c0s1h1d1c1s2h2d2c2;;;").plays(), 24 * 24 * 24);
        due("trumps that are not in it", with("n2t1:h0h1+sf0l0k0b1", "h0h1;").plays(), 1);
        due("suits are followed", with("n4t1:s0h0d0c0-f0l0k1b?", ";s0h0d0c0;;").plays(), 24);
        // chair 0 leads h3, and who plays c0 behind it has no h1: 4 and 4; or it leads c0: 6 and 6
        LastTrick x = with("n3t2:h3c0h0s0h1d0-f0l0k1b0", "h3c0h0s0h1d0;;");
        due("who did not follow", x.plays(), 20);
        x.clue(0, 1, 12, 0);
        x.clue(0, 0, 0, 0);
        due("chair 1 did not, so chair 2 has h1", x.plays(), 1);
        due("chair 2 has h1", x.sure(5), 2);
        due("and three unseen", with(FOUR_SUITS, "?h0d0c0?h1d1c1?h2d2c2;;;").plays(), 6 * 24 * 24 * 24);
    }

    private static void unlikePlays() {
        sentence(0, "(Two are unlike, if one of these is.)");
        due("in any order", with(TWO_IN_ANY_ORDER, "s0s1;").plays(), 2);
        due("one is unseen", with(TWO_IN_ANY_ORDER, "s0?;").plays(), 2);
        due("two are unseen: which lies where", with(TWO_IN_ANY_ORDER, "??;").plays(), 4);
        sentence(0, "who BEGINS (as known)");
        due("0 begins", with("n2t1:s0s1-f0l0k1b0", "s0s1;").plays(), 1);
        due("1 begins", with("n2t1:s0s1-f0l0k1b1", "s0s1;").plays(), 1);
        due("another begins", with("n2t1:s0s1-f0l0k0b1", "s1s0;").plays(), 0);
    }

    private static void orderOfHeaps() {
        sentence(0, "the first one first; of each TRICK in the order in which they were played (KEPT 0), or in any (1)");
        String game = "n2t2:s0s1h0h1-f1l0k0b0";
        LastTrick x = with(game, "s1s0h1h0;");
        due("as they were played", x.plays(), 1);
        for (int i = 0; i < 4; i++) {
            due("card " + i, x.first(i), x.heap(0, i));
        }
        Texts.table(x, "h1h0s1s0;");
        due("the other one first", x.first(0), 5);
        Texts.table(x, "s1s0h0h1;");
        due("chair 1 led h0, but did not win", x.plays(), 0);
        x.set(6, 1);
        due("in any order", x.plays(), 1);
        due("h1 was led", x.first(2), 5);
        Texts.table(x, "s0s1h0h1;");
        due("in any order", x.plays(), 1);
        x.set(7, 1);
        due("chair 1 led s0", x.first(0), 0);
        x.set(7, 0);
        Texts.table(x, "h1s0s1h0;");
        due("of one trick: s0", x.first(0), 0);
        due("of one trick: h1", x.first(1), 5);
    }

    /** The table that a row leaves, each trick of which the last of its chairs wins. */
    private static String wonByTheLast(int chairs, int tricks, int leads, int begins) {
        String[] heaps = new String[chairs];
        Arrays.fill(heaps, "");
        int leader = begins;
        for (int k = 0; k < tricks; k++) {
            int winner = (leader + chairs - 1) % chairs;
            for (int rank = 0; rank < chairs; rank++) {
                heaps[winner] += "shdc".charAt(k) + "" + rank;
            }
            leader = leads == 0 ? winner : (leader + 1) % chairs;
        }
        return String.join(";", heaps);
    }

    private static void whoLeads() {
        sentence(0, "LEADS 0: who won leads next; 1: the CHAIR behind the one that led.");
        for (int chairs = 2; chairs <= 4; chairs++) {
            int tricks = Math.min(4, 12 / chairs);
            for (int begins = 0; begins < chairs; begins++) {
                for (int leads = 0; leads < 2; leads++) {
                    StringBuilder pack = new StringBuilder();
                    for (int i = 0; i < chairs * tricks; i++) {
                        pack.append("shdc".charAt(i / chairs)).append(i % chairs);
                    }
                    String game = "n" + chairs + "t" + tricks + ":" + pack + "-f0l" + leads + "k0b" + begins;
                    LastTrick x = with(game, wonByTheLast(chairs, tricks, leads, begins));
                    x.clue(2, 0, 4, 0);
                    if (tricks > 3) {
                        x.clue(2, 4, 8, 0);
                        x.clue(2, 8, 12, 0);
                    }
                    int leader = begins;
                    for (int k = 0; k < tricks; k++) {
                        due(game + ": trick " + k, x.trick(k, 0), 1 << leader);
                        due(game + ": won", x.trick(k, 1), 1 << (leader + chairs - 1) % chairs);
                        leader = leads == 0 ? (leader + chairs - 1) % chairs : (leader + 1) % chairs;
                    }
                    // of two chairs both laws are one here
                    x.set(5, 1 - leads);
                    due(game + ": by the other law", x.plays(), chairs == 2 ? 1 : 0);
                }
            }
        }
        // s1 s0 and h1 h0 were led by who won them: 0 can't lead behind 1
        due("who did not win led", with("n2t2:s0s1h0h1-f0l0k0b?", "s1s0;h1h0").plays(), 0);
        due("by turns", with("n2t2:s0s1h0h1-f0l1k0b?", "s1s0;h1h0").plays(), 2);
        due("not by turns", with("n2t2:s0s1h0h1-f0l1k0b?", "s0s1h0h1;").plays(), 0);
        due("not by turns", with("n2t2:s0s1h0h1-f0l1k0b?", "s1s0h1h0;").plays(), 0);
        // all three were led by one chair, and the other took h0: the last
        due("the last is lost", with("n2t3:s0s1h0h1d0d1-f1l0k0b?", "s1s0d1d0;h0h1").plays(), 1);
        due("the last is lost", with("n2t3:s0s1h0h1d0d1-f1l0k0b?", "h0h1;s1s0d1d0").plays(), 1);
        // led by 1 and by 0: only 1 comes behind 0, of more than two chairs
        due("0, then 1 of three", with("n3t2:s0s1s2h0h1h2-f0l1k0b?", "s0s1s2;;h0h1h2").plays(), 1);
        due("0, then 1 of four", with("n4t2:s0s1s2s3h0h1h2h3-f0l1k0b?", "s0s1s2s3;;;h0h1h2h3").plays(), 1);
        due("either of two", with("n2t2:s0s1h0h1-f0l1k0b?", "s0s1;h0h1").plays(), 2);
    }

    /** Whatever is asked first, all else is answered as ever. */
    private static void inAnyOrder() {
        sentence(0, "so that it leaves THE TABLE and all CLUES let it");
        Call[] questions = {LastTrick::plays, x -> x.may(0), x -> x.sure(0), x -> x.under(0, 0), x -> x.trick(0, 0), x -> x.first(0),
            x -> x.fewest(-1), LastTrick::drops, LastTrick::turned, x -> x.others(-1), LastTrick::leaves, x -> x.best(0),
            x -> x.falls(0), x -> x.knows(0, 0)};
        for (Standing standing : new Standing[] {Standing.TABLE, Standing.ALL, Standing.FULL}) {
            for (int i = 0; i < questions.length; i++) {
                LastTrick x = standing.make();
                questions[i].on(x);
                due(standing + " behind question " + i, Look.NOW.at(x).equals(Look.NOW.at(standing.make())) ? 1 : 0, 1);
            }
        }
    }

    /** What was asked before a change is asked anew behind it. */
    private static void anew() {
        sentence(0, "so that it leaves THE TABLE and all CLUES let it");
        Call[] changes = {x -> Texts.table(x, "h0h1d3;s0s1s2;"), x -> x.set(3, 1), x -> x.set(4, 1), x -> x.set(5, 1),
            x -> x.set(6, 0), x -> x.set(7, 0), x -> x.clue(0, 1, 11, 0), LastTrick::forget, LastTrick::restore,
            x -> Texts.game(x, "n2t3:s0s1s2h0h1h2+hf0l0k0b0") + Texts.table(x, "s0s1;s2h0h1h2"),
            x -> Texts.row(x, 0, Standing.ROW_CARDS)};
        for (int i = 0; i < changes.length; i++) {
            LastTrick x = Standing.ALL.make();
            LastTrick twin = Standing.ALL.make();
            x.plays();
            x.fewest(-1);
            x.drops();
            x.turned();
            x.others(-1);
            x.best(0);
            x.falls(1);
            changes[i].on(x);
            changes[i].on(twin);
            due("alike behind change " + i, Look.NOW.at(x).equals(Look.NOW.at(twin)) ? 1 : 0, 1);
        }
    }

    private static void may() {
        sentence(12, "BAD: also not in the PACK; NOT: there is no TABLE");
        beyondAheadOfNot("may", 0, 15, LastTrick::may);
        for (Standing standing : WITHOUT_TABLE) {
            refused(standing, "may", x -> x.may(0), NOT);
            refused(standing, "may 3, not in the pack", x -> x.may(3), NOT);
        }
        for (int card : new int[] {3, 6, 10, 12, 15}) {
            refused(Standing.ALL, "not in the pack", x -> x.may(card), BAD);
        }
        sentence(12, "CHAIRS that may have held a CARD, as bits");
        due("nobody: no play", withoutPlay().may(0), 0);
        LastTrick x = with("n4t1:s0h0d0c3-f1l0k1b?", "s0h0d0c3;;;");
        due("card 0, everybody", x.may(0), 15);
        due("card 15, everybody", x.may(15), 15);
        x = with("n4t1:s0h0d0c3-f1l0k0b?", ";;;s0h0d0c3");
        due("card 0, chair 3", x.may(0), 8);
        due("card 4, chair 0 behind it", x.may(4), 1);
    }

    private static void sure() {
        sentence(13, "BAD; NOT; NONE: nobody, there is no PLAY");
        beyondAheadOfNot("sure", 0, 15, LastTrick::sure);
        for (Standing standing : WITHOUT_TABLE) {
            refused(standing, "sure", x -> x.sure(0), NOT);
            refused(standing, "sure 3, not in the pack", x -> x.sure(3), NOT);
        }
        for (int card : new int[] {3, 6, 10, 12, 15}) {
            refused(Standing.ALL, "not in the pack", x -> x.sure(card), BAD);
        }
        LastTrick x = with("n4t1:s0h0d0c3-f1l0k1b?", "s0h0d0c3;;;");
        due("one of four", x.sure(0), NONE);
        x.clue(0, 1, 0, 0);
        due("it is told", x.sure(0), 1);
        due("one of three", x.sure(4), NONE);
        due("no play", withoutPlay().sure(0), NONE);
        sentence(13, "Who surely held a CARD");
        x = with("n4t1:s0h0d0c3-f1l0k0b?", ";;;s0h0d0c3");
        due("card 0, chair 3", x.sure(0), 3);
        due("card 4, chair 0 behind it", x.sure(4), 0);
        due("card 15, chair 2", x.sure(15), 2);
    }

    private static void under() {
        sentence(14, "CARDS that an UNSEEN CARD of a HEAP may be, as bits");
        LastTrick x = with("n2t1:s0c3-f0l0k0b?", "??;");
        due("cards 0 and 15", x.under(0, 0), 1 | 1 << 15);
        due("cards 0 and 15", x.under(0, 1), 1 | 1 << 15);
        due("the one that lacks", with("n2t1:s0c3-f0l0k0b?", ";c3?").under(1, 1), 1);
        due("no play", with("n2t1:s0c3-f0l0k0b1", "??;").under(0, 0), 0);
        x = with("n4t3:s0h0d0c0s1h1d1c1s2h2d2c2-f1l0k0b?", ";;;?h0d0c0s1?d1c1s2h2d2?");
        for (int i : new int[] {0, 5, 11}) {
            due("place " + i, x.under(3, i), 1 | 1 << 5 | 1 << 14);
        }
        due("six plays", x.plays(), 6);
    }

    /** Three unseen cards in each order, told by who held two of them. */
    private static void underEachOther() {
        sentence(14, "CARDS that an UNSEEN CARD of a HEAP may be, as bits");
        int[] cards = {0, 4, 8};
        for (int a = 0; a < 3; a++) {
            for (int b = 0; b < 3; b++) {
                if (a != b) {
                    LastTrick x = with("n3t1:s0h0d0-f1l0k0b?", "???;;");
                    due("each order", x.plays(), 6);
                    x.clue(0, 0, cards[a], 0);
                    x.clue(0, 1, cards[b], 0);
                    due("one order", x.plays(), 1);
                    due("the first", x.under(0, 0), 1 << cards[a]);
                    due("the second", x.under(0, 1), 1 << cards[b]);
                    due("the third", x.under(0, 2), 1 << cards[3 - a - b]);
                }
            }
        }
        LastTrick x = with("n2t3:s0s1h0h1d0d1-f0l0k0b?", "s1?;?h1d1?");
        x.clue(0, 1, 0, 0);
        due("s0 lies in heap 0", x.under(0, 1), 1);
        due("h0 was taken with h1", x.under(1, 0), 1 << 4);
        due("d0 lies behind it", x.under(1, 3), 1 << 8);
        // another table of the same object, in which other cards lack: chair 1 leads all, s0 the last of them
        x.forget();
        Texts.table(x, "??;d1d0h1h0");
        due("s0", x.under(0, 0), 1);
        due("s1", x.under(0, 1), 2);
    }

    private static void underWhatIsNot() {
        sentence(14, "BAD; NOT: there is no TABLE, it is seen");
        beyondAheadOfNot("under", 0, 3, (x, chair) -> x.under(chair, 0));
        beyondAheadOfNot("under 0", 0, 11, (x, i) -> x.under(0, i));
        for (Standing standing : WITHOUT_TABLE) {
            refused(standing, "under", x -> x.under(0, 0), NOT);
            refused(standing, "under 3, place 11", x -> x.under(3, 11), NOT);
        }
        refused(Standing.ALL, "seen", x -> x.under(0, 1), NOT);
        refused(Standing.ALL, "seen, the last", x -> x.under(1, 1), NOT);
        sentence(0, "what the GAME, THE TABLE have not is BAD behind it");
        refused(Standing.ALL, "chair 3 of three", x -> x.under(3, 0), BAD);
        refused(Standing.ALL, "place 3 of three", x -> x.under(0, 3), BAD);
        refused(Standing.ALL, "an empty heap", x -> x.under(2, 0), BAD);
        due("the first place", Standing.TABLE.make().under(0, 0) > 0 ? 1 : 0, 1);
        due("the last place", Standing.TABLE.make().under(1, 2) > 0 ? 1 : 0, 1);
    }

    private static void tricks() {
        sentence(15, "BAD; NOT.");
        beyondAheadOfNot("trick", 0, 3, (x, k) -> x.trick(k, 0));
        beyondAheadOfNot("trick 0", 0, 1, (x, what) -> x.trick(0, what));
        for (Standing standing : WITHOUT_TABLE) {
            refused(standing, "trick", x -> x.trick(0, 0), NOT);
            refused(standing, "trick 3", x -> x.trick(3, 1), NOT);
        }
        sentence(0, "what the GAME, THE TABLE have not is BAD behind it");
        refused(Standing.ALL, "trick 2 of two", x -> x.trick(2, 0), BAD);
        refused(Standing.ALL, "trick 3 of two", x -> x.trick(3, 1), BAD);
        sentence(15, "CHAIRS that may have led (0), won (1) TRICK k, as bits");
        due("no play", withoutPlay().trick(0, 0), 0);
        due("no play", withoutPlay().trick(0, 1), 0);
        LastTrick x = with("n4t1:s0s1s2s3-f0l0k1b?", ";;;s0s1s2s3");
        due("everybody may have led", x.trick(0, 0), 15);
        due("chair 3 won", x.trick(0, 1), 8);
        x = with("n2t4:s0s1h0h1d0d1c0c1-f1l1k0b0", "s1s0d1d0;h1h0c1c0");
        for (int k = 0; k < 4; k++) {
            due("trick " + k + " led by turns", x.trick(k, 0), 1 << k % 2);
            due("trick " + k + " won by turns", x.trick(k, 1), 1 << k % 2);
        }
    }

    private static void firsts() {
        sentence(16, "BAD; NOT; NONE: there is none");
        beyondAheadOfNot("first", -1, 11, LastTrick::first);
        for (Standing standing : WITHOUT_TABLE) {
            refused(standing, "first", x -> x.first(-1), NOT);
            refused(standing, "first 11", x -> x.first(11), NOT);
        }
        for (int i : new int[] {6, 7, 11}) {
            refused(Standing.ALL, "beyond the game", x -> x.first(i), BAD);
        }
        LastTrick x = withoutPlay();
        for (int i = -1; i < 2; i++) {
            due("no play", x.first(i), NONE);
        }
        due("no play, beyond the game", x.first(2), BAD);
        sentence(16, "who BEGINS (-1), the i-th CARD that was played");
        x = with("n4t3:s0h0d0c0s1h1d1c1s2h2d2c2-f1l0k0b?", ";;;c0h0d0s0s1h1d1c1s2h2d2c2");
        due("who begins", x.first(-1), 3);
        due("the first", x.first(0), 12);
        due("the last", x.first(11), 14);
        sentence(16, "The first PLAY as a row");
        x = with(TWO_IN_ANY_ORDER, "s0s1;");
        int[] least = {0, 1, 0};
        for (int i = -1; i < 2; i++) {
            due("first " + i, x.first(i), least[i + 1]);
        }
    }

    private static void fewest() {
        sentence(17, "BAD; NOT; NONE: by none");
        beyondAheadOfNot("fewest", -1, 3, LastTrick::fewest);
        for (Standing standing : WITHOUT_TABLE) {
            refused(standing, "fewest", x -> x.fewest(-1), NOT);
            refused(standing, "fewest 3 of three", x -> x.fewest(3), NOT);
        }
        refused(Standing.ALL, "fewest 3 of three", x -> x.fewest(3), BAD);
        LastTrick x = with(TWO_CARDS, "s1s0;");
        due("chair 2 of two", x.fewest(2), BAD);
        for (int chair = -1; chair < 2; chair++) {
            due("no breach", x.fewest(chair), 0);
            due("no play by any", withoutPlay().fewest(chair), NONE);
        }
        sentence(17, "FEWEST; with a CHAIR (-1: any) that makes no BREACH");
        // chair 1 kept s0 to the last and did not follow three times
        x = with("n2t4:s0s1s2s3h0h1h2h3-f0l0k0b0", "s3h0s2h1s1h2h3s0;");
        due("three breaches", x.fewest(-1), 3);
        due("chair 0 makes none of them", x.fewest(0), 3);
        due("chair 1 makes all", x.fewest(1), NONE);
        x.set(4, 1);
        due("no law, no breach", x.fewest(1), 0);
        x.clue(0, 1, 7, 0);
        due("clues hold", x.fewest(-1), NONE);
    }

    private static void fewestOfFour() {
        sentence(17, "FEWEST; with a CHAIR (-1: any) that makes no BREACH");
        for (String names : namesOfSuits()) {
            for (int begins = 0; begins < 4; begins++) {
                String ahead = ";".repeat(begins);
                String behind = ";".repeat(3 - begins);
                int second = (begins + 1) % 4;
                int fourth = (begins + 3) % 4;
                // either the second kept d0, and did not follow twice, or the fourth, and did not follow once
                LastTrick x = with(Texts.renamed("n4t3:d3h0s0d1d2h1s1h2c3d0c0c1-f0l0k0b" + begins, names),
                    ahead + Texts.renamed("d3h0s0d1d2h1s1h2c3?c0?", names) + behind);
                for (int chair = -1; chair < 4; chair++) {
                    due("but for " + chair, x.fewest(chair), chair == fourth ? 2 : 1);
                }
                // both the second and the fourth kept a card of s
                x = with(Texts.renamed("n4t2:s3h0s0h1c3s2c0s1-f0l0k0b" + begins, names),
                    ahead + Texts.renamed("s3h0s0h1c3s2c0s1", names) + behind);
                for (int chair = -1; chair < 4; chair++) {
                    due("but for " + chair, x.fewest(chair), chair == second || chair == fourth ? NONE : 2);
                }
            }
            sentence(0, "BREACH is a CARD that FOLLOW does not let. FEWEST: the fewest BREACHES by which there is a PLAY, all else lawful.");
            // each of two kept a card of the suit that the other led
            LastTrick x = with(Texts.renamed("n2t3:s0s1s2h0h1h2-f0l1k0b0", names), Texts.renamed("s1h0h2s0;h1s2", names));
            due("any", x.fewest(-1), 2);
            due("but for 0", x.fewest(0), NONE);
            due("but for 1", x.fewest(1), NONE);
            // who leads, who wins, who begins are laws that no breach bends
            x.set(5, 0);
            due("who won leads", x.fewest(-1), NONE);
            x.set(5, 1);
            x.set(7, 1);
            due("another begins", x.fewest(-1), NONE);
            x.set(7, -1);
            due("it is not known who begins", x.fewest(-1), 2);
            x.set(3, "shdc".indexOf(names.charAt(3)));
            x.set(4, 2);
            due("a trump that nobody has", x.fewest(-1), 2);
        }
    }

    private static void fewestByEither() {
        sentence(17, "FEWEST; with a CHAIR (-1: any) that makes no BREACH");
        for (String names : namesOfSuits()) {
            for (int begins = 0; begins < 4; begins++) {
                String ahead = ";".repeat(begins);
                String behind = ";".repeat(3 - begins);
                // either the second kept d0, and did not follow once, or the third, and did not follow twice
                LastTrick x = with(Texts.renamed("n4t3:d3d1h0s0d2h2h1s1c3d0c1c0-f0l0k0b" + begins, names),
                    ahead + Texts.renamed("d3d1h0s0d2h2h1s1c3??c0", names) + behind);
                for (int chair = -1; chair < 4; chair++) {
                    due("but for " + chair, x.fewest(chair), chair == (begins + 1) % 4 ? 2 : 1);
                }
                // any but the first kept d0
                x = with(Texts.renamed("n4t3:d3h0s0h1d2h2s1h3c3d0c0c1-f0l0k0b" + begins, names),
                    ahead + Texts.renamed("d3h0s0h1d2h2s1h3c3???", names) + behind);
                for (int chair = -1; chair < 4; chair++) {
                    due("but for " + chair, x.fewest(chair), 2);
                }
            }
            // by the clues either 0 kept d0, or 1 kept s0, or both
            LastTrick x = with(Texts.renamed("n2t3:s0s1h1d0d1c0-f0l1k0b0", names), Texts.renamed("s1???;d1h1", names));
            x.clue(3, 0, "shdc".indexOf(names.charAt(0)), 2);
            x.clue(3, 1, "shdc".indexOf(names.charAt(2)), 2);
            for (int chair = -1; chair < 2; chair++) {
                due("but for " + chair, x.fewest(chair), 1);
            }
        }
    }

    private static void turned() {
        sentence(19, "NOT.");
        for (Standing standing : WITHOUT_TABLE) {
            refused(standing, "turned", LastTrick::turned, NOT);
        }
        sentence(0, "TURNED is a HEAP whose TRICKS lie the other way round (the last one first; CARDS of a TRICK as they lie)");
        String game = "n2t4:s0s1h0h1d0d1c0c1-f1l0k0b1";
        // chair 1 led c0 and nothing else, so it was the first trick; an empty heap turned is as it was
        LastTrick x = with(game, "s1s0h1h0d1d0c0c1;");
        due("as it lies", x.plays(), 0);
        due("turned", x.turned(), 1);
        x.clue(2, 9, 5, 0);
        x.clue(2, 5, 1, 0);
        due("all of it is turned", x.turned(), 1);
        due("it lies as it lay", x.heap(0, 0), 1);
        x = with(game, "c0c1s1s0h1h0d1d0;");
        due("as it lies", x.plays(), 1);
        due("turned", x.turned(), 2);
        x = with("n2t3:s0s1h0h1d0d1-f1l0k0b1", "s1s0h1h0d0d1;");
        due("of three the middle one stays", x.turned(), 1);
    }

    private static void turnedAlone() {
        sentence(19, "HEAPS that, TURNED alone, leave a PLAY, as bits");
        due("no play", withoutPlay().turned(), 0);
        due("empty heaps and one of one trick", with("n4t1:s0s1s2s3-f0l0k0b?", ";;;s0s1s2s3").turned(), 15);
        LastTrick x = with("n2t4:s0s1h0h1d0d1c0c1-f1l0k1b?", "s0s1h0h1;d0d1c0c1");
        due("either", x.turned(), 3);
        x.clue(2, 5, 1, 0);
        due("h1 ahead of s1: the first", x.turned(), 1);
        x.clue(2, 13, 9, 0);
        due("c1 ahead of d1 too: both would have to be", x.turned(), 0);
        due("clues stay", x.count(0), 2);
    }

    private static void others() {
        sentence(20, "BAD; NOT; NONE: there are not so many");
        beyondAheadOfNot("others", -1, 29, LastTrick::others);
        for (Standing standing : WITHOUT_TABLE) {
            refused(standing, "others", x -> x.others(-1), NOT);
            refused(standing, "others 29", x -> x.others(29), NOT);
        }
        LastTrick x = with(TWO_CARDS, "s0s1;");
        due("all", x.others(-1), 30);
        for (int i = 0; i < 30; i++) {
            due("other " + i, x.others(i), i);
        }
        due("beyond", x.others(30), BAD);
        x = withoutPlay();
        x.clue(0, 0, 0, 0);
        x.clue(0, 1, 0, 0);
        due("none", x.others(-1), 0);
        for (int i = 0; i < 30; i++) {
            due("other " + i + " of none", x.others(i), NONE);
        }
    }

    private static void numbersOfOthers() {
        sentence(0, "in this order (numbers 0 .. 29: 6 TRUMP and 1, 2 FOLLOW, LEADS, together), else as it is");
        LastTrick x = with("n2t2:s0s1h0h1-f0l0k0b0", "s1h0h1s0;");
        // a breach but by free laws, who won leads; or trump s, and chair 1 led h1
        int[] numbers = {2, 7, 9, 11, 20, 26};
        sentence(20, "how many (-1), the i-th (0 ..)");
        due("how many", x.others(-1), numbers.length);
        for (int i = 0; i < 30; i++) {
            due("other " + i, x.others(i), i < numbers.length ? numbers[i] : NONE);
        }
        due("it is as it was: trump", x.told(3), NONE);
        due("it is as it was: follow", x.told(4), 0);
        due("it is as it was: leads", x.told(5), 0);
        // the game that is told is among them
        x.set(4, 1);
        due("as many", x.others(-1), numbers.length);
        due("the first is its own", x.others(0), 2);
        // trump h: chair 1 led s1, and chair 0 behind it h1
        x.set(7, 1);
        due("as many", x.others(-1), 6);
        for (int i = 0; i < 6; i++) {
            due("other " + i + " that 1 begins", x.others(i), 12 + i);
        }
    }
}
