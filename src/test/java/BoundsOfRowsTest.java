/** Boundary cases of promises 21 to 27: told plays, and how they are judged. */
public final class BoundsOfRowsTest extends Bounds {
    private static final String TWELVE = "s0s1s2s3h0h1h2h3d0d1d2d3";
    private static final String FOUR_CHAIRS = "n4t3:" + TWELVE + "-f1l0k0b?";
    private static final String FOUR_SPADES = "n2t2:s0s1s2s3-f0l0k0b?";
    private static final String TWO_SUITS = "n2t2:s0s1h0h1-f0l0k0b0";

    public static void main(String[] args) {
        numbersOfRows();
        sheetsOfRows();
        itemsOfRows();
        strangers();
        follow();
        followByTrumps();
        rowsThatStay();
        leads();
        leaving();
        leavesNot();
        who();
        best();
        falls();
        knows();
        whatIsKnown();
        counts();
        end();
    }

    private static void numbersOfRows() {
        sentence(21, "BAD; NOT: there is no GAME");
        beyondAheadOfNot("row, who begins", 0, 3, (x, begins) -> x.row(begins, 0, 0, 0));
        beyondAheadOfNot("row, sheet", 0, 3, (x, sheet) -> x.row(0, sheet, 0, 0));
        beyondAheadOfNot("row, lane", 0, 2, (x, lane) -> x.row(0, 0, lane, 0));
        for (int from : new int[] {LEAST, -1, 0, 3, 24, MOST}) {
            refused(Standing.SHEETS, "row from " + from, x -> x.row(0, 0, 0, from), NOT);
            refused(Standing.SHEETS, "row of nothing from " + from, x -> x.row(3, 3, 2, from), NOT);
            sentence(0, "what the GAME, THE TABLE have not is BAD behind it");
            refused(Standing.GAME, "3 of three begins", x -> x.row(3, 0, 0, from), BAD);
            refused(Standing.GAME, "3 of three begins, of nothing", x -> x.row(3, 3, 2, from), BAD);
        }
        LastTrick x = with(FOUR_SPADES);
        due("2 of two begins", x.row(2, 0, 0, 0), BAD);
        due("1 of two begins", x.row(1, 0, 0, 0), NULL);
    }

    private static void sheetsOfRows() {
        sentence(0, "(NULL, CAST, INDEX, SIZE in this order, behind BAD)");
        for (Standing standing : new Standing[] {Standing.GAME, Standing.ALL}) {
            for (int from : new int[] {LEAST, -1, 0, MOST}) {
                sentence(21, "NULL; CAST; INDEX");
                for (int lane = 0; lane < 3; lane++) {
                    int as = lane;
                    refused(standing, "a row of nothing", x -> x.row(0, 3, as, from), NULL);
                    for (int sheet = 0; sheet < 3; sheet++) {
                        int of = sheet;
                        if (sheet != lane) {
                            refused(standing, "another lane", x -> x.row(0, of, as, from), CAST);
                        }
                    }
                }
                refused(standing, "no item", x -> x.row(0, 2, 2, from), INDEX);
            }
            for (int from : new int[] {LEAST, -6, -1, 3, 4, 8, 24, MOST - 5, MOST}) {
                refused(standing, "six of eight items from " + from, x -> x.row(0, 0, 0, from), INDEX);
            }
            refused(standing, "six of eight items from 2", x -> x.row(0, 0, 0, 2), 2);
            refused(standing, "six of six items from 1", x -> x.row(0, 1, 1, 1), INDEX);
            refused(standing, "six of six items", x -> x.row(0, 1, 1, 0), 2);
        }
    }

    private static LastTrick withItems(String game, int lane, int... items) {
        LastTrick x = with(game);
        x.sheet(0, lane, items.length);
        for (int i = 0; i < items.length; i++) {
            x.item(0, lane, i, items[i]);
        }
        return x;
    }

    private static void itemsOfRows() {
        sentence(21, "CARDS as items of a SHEET, taken as a row of a LANE, from one on");
        LastTrick x = withItems(FOUR_SPADES, 1, 9, 0, 1, 2, 3, 9);
        due("from 0", x.row(0, 0, 1, 0), 0);
        due("from 1", x.row(0, 0, 1, 1), NONE);
        due("from 2", x.row(0, 0, 1, 2), 3);
        due("from 3, too few, though the last is not of the pack", x.row(0, 0, 1, 3), INDEX);
        due("a full sheet, from the last that can be", full().row(0, 0, 2, 20), NONE);
        due("from one behind it", full().row(0, 0, 2, 21), INDEX);
    }

    private static LastTrick full() {
        int[] items = new int[24];
        for (int i = 0; i < 24; i++) {
            items[i] = i % 4;
        }
        return withItems(FOUR_SPADES, 2, items);
    }

    private static void strangers() {
        sentence(21, "the first place whose CARD is not of the PACK, or was there");
        int[] all = {0, 1, 2, 3, 4, 5, 6, 7, 8, 9, 10, 11};
        for (int place = 0; place < 12; place++) {
            for (int card : new int[] {12, 15, 16, -1, 256, 65536, LEAST, MOST}) {
                int[] items = all.clone();
                items[place] = card;
                due("card " + card + " at " + place, withItems(FOUR_CHAIRS, 2, items).row(0, 0, 2, 0), place);
                items[11] = card;
                due("and at 11", withItems(FOUR_CHAIRS, 2, items).row(0, 0, 2, 0), place);
            }
            for (int ahead = 0; ahead < place; ahead++) {
                int[] items = all.clone();
                items[place] = ahead;
                due("card " + ahead + " at " + place, withItems(FOUR_CHAIRS, 2, items).row(0, 0, 2, 0), place);
            }
        }
        due("all are of the pack, and once there", withItems(FOUR_CHAIRS, 2, all).row(0, 0, 2, 0), NONE);
        due("a byte below 0", withItems(FOUR_SPADES, 0, 0, 1, 2, -1).row(0, 0, 0, 0), 3);
        due("a short below 0", withItems(FOUR_SPADES, 1, -16, 1, 2, 3).row(0, 0, 1, 0), 0);
        sentence(21, "if there is none, the first whose CARD FOLLOW does not let");
        LastTrick x = with(TWO_SUITS);
        due("a breach", Texts.row(x, 0, "s1h0h1s0"), 1);
        due("a breach, and a stranger behind it", Texts.row(x, 0, "s1h0h1c0"), 3);
        due("a breach, and one that was there behind it", Texts.row(x, 0, "s1h0h1h0"), 3);
        x = with("n2t3:s0s1h0h1d0d1-f0l0k0b0");
        due("two breaches", Texts.row(x, 0, "s1h0h1d0d1s0"), 1);
        due("the second alone", Texts.row(x, 0, "s1s0h1d0d1h0"), 3);
    }

    /** Where a row of two or three chairs that chair 0 begins is at fault, by each order of the suits. */
    private static void followed(String game, String cards, int place) {
        for (String names : namesOfSuits()) {
            LastTrick x = with(Texts.renamed(game, names));
            due(game + " " + cards + " as " + names, Texts.row(x, 0, Texts.renamed(cards, names)), place);
        }
    }

    /** As followed, of a row of which chair 0 wins all: its heap alone tells whether there is such a play. */
    private static void followedToo(String game, String cards, int place) {
        followed(game, cards, place);
        for (String names : namesOfSuits()) {
            LastTrick x = with(Texts.renamed(game, names), Texts.renamed(cards, names) + ";");
            due("plays of " + game + " " + cards + " as " + names, x.plays(), place == NONE ? 1 : 0);
            due("breaches", x.fewest(-1), place == NONE ? 0 : 1);
        }
    }

    private static void follow() {
        sentence(0, "FOLLOW 0: who has a CARD of the SUIT that was led plays one of it.");
        followedToo("n2t2:s0s1h0h1-f0l0k0b0", "s1h0h1s0", 1);
        followedToo("n2t2:s0s1h0h1-f0l0k0b0", "s1h0s0h1", NONE);
        followedToo("n2t2:s0s1h0h1-f0l0k0b0", "s1s0h1h0", NONE);
        followed("n2t2:s0s1h0h1-f0l0k0b0", "h0h1s0s1", NONE);
        followed("n3t2:s0s1s2h0h1h2-f0l0k0b0", "s1s0h0h1h2s2", 2);
        followed("n3t2:s0s1s2h0h1h2-f0l0k0b0", "s2h0s0h1s1h2", 1);
        // it had one, and it has played it
        followedToo("n2t3:s0s1s2h0h1h2-f0l0k0b0", "s2s0s1h0h2h1", NONE);
        followedToo("n2t3:s0s1s2h0h1h2-f0l0k0b0", "s2h0h2h1s1s0", 1);
        sentence(0, "1: anything may be played.");
        followedToo("n2t2:s0s1h0h1-f1l0k0b0", "s1h0h1s0", NONE);
        followed("n3t2:s0s1s2h0h1h2-f1l0k0b0", "s1s0h0h1h2s2", NONE);
    }

    private static void followByTrumps() {
        sentence(0, "2: as 0, and who has none of that SUIT, but a TRUMP, plays a TRUMP.");
        followed("n2t2:s0h1d0c0+df2l0k0b0", "s0c0h1d0", 1);
        followed("n2t2:s0h1d0c0+df2l0k0b0", "s0d0c0h1", NONE);
        followedToo("n2t2:s0h1d0c0+df2l0k0b0", "s0c0d0h1", NONE);
        // by 0 it need not
        followed("n2t2:s0h1d0c0+df0l0k0b0", "s0c0h1d0", NONE);
        // it keeps a trump
        followedToo("n2t2:s0h0d0d1+df2l0k0b0", "s0h0d1d0", 1);
        // it has the suit and a trump
        followed("n2t2:s0s1d0d1+df2l0k0b0", "s0d0s1d1", 1);
        followedToo("n2t2:s0s1d0d1+df2l0k0b0", "s1s0d1d0", NONE);
        // trumps are led, and it has one, none
        followed("n2t2:s0s1d0d1+df2l0k0b0", "d1s1s0d0", 1);
        followedToo("n2t2:s0s1d0d1+df2l0k0b0", "d1s1d0s0", NONE);
        // it had a trump, and has played it
        followed("n2t3:s0s1s2h0h1d0+df2l0k0b0", "s2h0s1d0h1s0", 1);
        followed("n2t3:s1s2h0h1h2d0+df2l0k0b0", "s2d0h1h2s1h0", NONE);
        followedToo("n2t3:s2h0h1d1d0c0+df2l0k0b0", "d1d0s2c0h1h0", NONE);
        // there are no trumps
        followedToo("n2t2:s0h1d0c0-f2l0k0b0", "s0c0h1d0", NONE);
        LastTrick x = with("n2t3:s0s1h0h1d1d0+df2l0k0b0", "s0h0s1h1d1d0;");
        due("chair 1 keeps its trump twice", x.fewest(-1), 2);
        due("chair 0 breaches nothing", x.fewest(0), 2);
        due("chair 1 does", x.fewest(1), NONE);
    }

    private static void rowsThatStay() {
        sentence(21, "(then the ROW stays as it was)");
        // of the game of all standings: a stranger, one that was there, a breach
        String[] rows = {"c0s1s2h0h1d3", "s0s1s2h0h1h1", "s0s1h0d3s2h1"};
        int[] places = {0, 5, 2};
        for (Standing standing : new Standing[] {Standing.GAME, Standing.ROW, Standing.ALL}) {
            for (int i = 0; i < rows.length; i++) {
                String row = rows[i];
                refusedBehind(standing, x -> Texts.row(x, 0, row), row, x -> x.row(0, 3, 0, 0), places[i]);
                LastTrick x = standing.make();
                due(row, Texts.row(x, 0, row), places[i]);
                due("who began", x.who(0, 0), standing == Standing.GAME ? NOT : 1);
            }
        }
        sentence(21, "NONE: it is lawful, and the ROW now");
        LastTrick x = Standing.ALL.make();
        due("another", Texts.row(x, 0, "s0s1s2h0h1d3"), NONE);
        due("who begins", x.who(0, 0), 0);
        due("the table stays", x.heap(0, 1), 2);
        due("clues stay", x.count(0), 2);
        x.item(3, 0, 0, 99);
        due("items are no longer looked at", x.who(0, 1), 2);
        // who begins need not be as the game knows it
        due("another begins", Texts.row(with(TWO_SUITS), 1, "s1s0h0h1"), NONE);
    }

    private static void leads() {
        sentence(0, "LEADS 0: who won leads next; 1: the CHAIR behind the one that led.");
        for (int begins = 0; begins < 4; begins++) {
            LastTrick x = told(FOUR_CHAIRS, begins, TWELVE);
            for (int k = 0; k < 3; k++) {
                due("who won leads trick " + k, x.who(4 * k, 0), (begins + 3 * k) % 4);
            }
            x.set(5, 1);
            due("row", Texts.row(x, begins, TWELVE), NONE);
            for (int k = 0; k < 3; k++) {
                due("the chair behind leads trick " + k, x.who(4 * k, 0), (begins + k) % 4);
            }
        }
    }

    private static void leaving() {
        sentence(22, "the first CHAIR whose HEAP is unlike (UNSEEN ones are like any), or who BEGINS otherwise (4)");
        LastTrick x = told("n4t2:s0s1s2s3h0h1h2h3-f0l0k0b0", 0, "s0s1s2s3h0h1h2h3");
        String[] tables = {";;h0h1h2h3;s0s1s2s3", "h0h1h2h3;;;s0s1s2s3", ";h0h1h2h3;;s0s1s2s3", ";;h0h1h3h2;s0s1s2s3",
            ";;h0h1h2h3;s0s1s3s2", ";;h3h1h2h0;s3s1s2s0", ";;?h1h2?;s0s1s2?", ";;h0??h3;s1s0s2?"};
        int[] unlike = {NONE, 0, 1, 2, 3, 2, NONE, 3};
        for (int i = 0; i < tables.length; i++) {
            due("table " + tables[i], Texts.table(x, tables[i]) >= 0 ? 1 : 0, 1);
            due("leaves " + tables[i], x.leaves(), unlike[i]);
        }
        due("row", Texts.row(x, 1, "s0s1s2s3h0h1h2h3"), NONE);
        due("the heap is unlike, and who begins", x.leaves(), 0);
        Texts.table(x, "s0s1s2s3;;;h0h1h2h3");
        due("who begins alone", x.leaves(), 4);
        x.set(7, -1);
        due("row", Texts.row(x, 1, "s0s1s2s3h0h1h2h3"), NONE);
        due("it is not known who begins", x.leaves(), NONE);
        x.set(6, 1);
        due("row", Texts.row(x, 1, "s0s1s2s3h0h1h2h3"), NONE);
        Texts.table(x, "s3s2s1?;;;?h3h0h1");
        due("kept in any order", x.leaves(), NONE);
        Texts.table(x, "s3s2s1h0;;;s0h3h2h1");
        due("another trick", x.leaves(), 0);
        Texts.table(x, "h0s2s1s3;;;s0h3h2h1");
        due("the first card of it", x.leaves(), 0);
        Texts.table(x, "???s3;;;s0h3h2h1");
        due("s0 was of the other one", x.leaves(), 3);
        x = told(FOUR_SPADES, 0, "s1s0s3s2");
        Texts.table(x, "s1s0s3s2;");
        due("two tricks of one heap", x.leaves(), NONE);
        Texts.table(x, "s3s2s1s0;");
        due("the other way round", x.leaves(), 0);
        Texts.table(x, "s1s0;s3s2");
        due("one trick fewer", x.leaves(), 0);
    }

    private static void leavesNot() {
        sentence(22, "NOT: there is no ROW, no TABLE; NONE: it does");
        for (Standing standing : WITHOUT_ROW) {
            refused(standing, "leaves", LastTrick::leaves, NOT);
        }
        refused(Standing.ROW, "leaves", LastTrick::leaves, NOT);
        refused(Standing.ALL, "leaves", LastTrick::leaves, NONE);
    }

    private static void who() {
        sentence(23, "BAD; NOT.");
        beyondAheadOfNot("who", 0, 11, (x, place) -> x.who(place, 0));
        beyondAheadOfNot("who 0", 0, 1, (x, what) -> x.who(0, what));
        for (Standing standing : WITHOUT_ROW) {
            refused(standing, "who", x -> x.who(0, 0), NOT);
            refused(standing, "who 11", x -> x.who(11, 1), NOT);
        }
        for (int place : new int[] {6, 7, 11}) {
            refused(Standing.ROW, "who " + place + " of six", x -> x.who(place, 0), BAD);
            refused(Standing.ALL, "who " + place + " of six", x -> x.who(place, 1), BAD);
        }
        sentence(23, "Who plays (0), wins (1; the TRICK of) the CARD at a place of the ROW");
        LastTrick x = told(FOUR_CHAIRS, 3, TWELVE);
        int[] players = {3, 0, 1, 2, 2, 3, 0, 1, 1, 2, 3, 0};
        int[] winners = {2, 2, 2, 2, 1, 1, 1, 1, 0, 0, 0, 0};
        for (int place = 0; place < 12; place++) {
            due("plays " + place, x.who(place, 0), players[place]);
            due("wins " + place, x.who(place, 1), winners[place]);
        }
    }

    private static void best() {
        sentence(24, "BAD; NOT.");
        beyondAheadOfNot("best", 0, 12, LastTrick::best);
        for (Standing standing : WITHOUT_ROW) {
            refused(standing, "best", x -> x.best(0), NOT);
            refused(standing, "best 12", x -> x.best(12), NOT);
        }
        for (int place : new int[] {7, 8, 12}) {
            refused(Standing.ROW, "best " + place + " of six", x -> x.best(place), BAD);
        }
        sentence(24, "BEST from a place of the ROW on (the end: 0)");
        LastTrick x = told(FOUR_CHAIRS, 0, TWELVE);
        due("the end of twelve", x.best(12), 0);
        due("beyond it", x.best(13), BAD);
        due("the end of six", Standing.ROW.make().best(6), 0);
        // one has all s, leads and can't be beaten
        x = told("n2t4:s0s1s2s3h0h1h2h3-f0l0k0b?", 0, "s0h0s1h1s2h2s3h3");
        for (int place = 0; place <= 8; place++) {
            due("all that are left, from " + place, x.best(place), (9 - place) / 2);
        }
        x = told("n2t4:s0s1s2s3h0h1h2h3-f0l0k0b?", 1, "s0h0s1h1s2h2s3h3");
        for (int place = 0; place <= 8; place++) {
            due("none, from " + place, x.best(place), 0);
        }
        // of a new row it is asked anew, at its last places too
        x = with("n2t4:s0s1s2s3h0h1h2h3-f0l0k0b?");
        for (int begins = 0; begins < 2; begins++) {
            due("row", Texts.row(x, begins, "s0h0s1h1s2h2s3h3"), NONE);
            for (int place = 0; place <= 8; place++) {
                due("begun by " + begins + ", from " + place, x.best(place), begins == 0 ? (9 - place) / 2 : 0);
            }
        }
        x = with(FOUR_CHAIRS);
        for (int begins = 0; begins < 4; begins++) {
            due("row", Texts.row(x, begins, TWELVE), NONE);
            // the last trick is led by who is two behind the first, and won by the last of it
            for (int place = 8; place < 12; place++) {
                due("begun by " + begins + ", from " + place, x.best(place), (begins + 1) % 2 == 0 ? 1 : 0);
            }
        }
        sentence(0, "SIDES: CHAIRS 0 and 2, and CHAIRS 1 and 3.");
        for (int winner = 0; winner < 4; winner++) {
            x = told("n4t1:s0s1s2s3-f0l0k0b?", winner, "s3s0s1s2");
            due("chair " + winner + " wins", x.best(0), winner % 2 == 0 ? 1 : 0);
            due("by the row", x.count(2), winner % 2 == 0 ? 1 : 0);
        }
        x = told("n3t1:s0s1s2-f0l0k0b?", 2, "s2s0s1");
        due("chair 2 of three wins", x.best(0), 1);
    }

    private static void falls() {
        sentence(25, "BAD; NOT.");
        beyondAheadOfNot("falls", 0, 11, LastTrick::falls);
        for (Standing standing : WITHOUT_ROW) {
            refused(standing, "falls", x -> x.falls(0), NOT);
            refused(standing, "falls 11", x -> x.falls(11), NOT);
        }
        for (int place : new int[] {6, 7, 11}) {
            refused(Standing.ROW, "falls " + place + " of six", x -> x.falls(place), BAD);
        }
        sentence(25, "By how much a CARD of the ROW falls SHORT");
        // chair 1 takes s0 with s3, and then loses s1; s1 would have been enough
        judged(0, "s0s3s1s2", new int[] {0, 1, 0, 0});
        // chair 0 does not take s1 with s2, and then loses that too
        judged(1, "s1s0s3s2", new int[] {0, 1, 0, 0});
        judged(0, "s0s1s3s2", new int[] {0, 0, 0, 0});
        LastTrick x = told(FOUR_CHAIRS, 0, TWELVE);
        due("the last of twelve", x.falls(11), 0);
        sentence(0, "so that its own SIDE wins most");
        // the third could take s2 with s3, and then win with s0 too; it plays s0, and wins nothing
        for (int begins = 0; begins < 4; begins++) {
            x = told("n4t2:s0s1s2s3h0h1h2d0-f0l0k0b?", begins, "s1s2s0h0h2s3h1d0");
            for (int place = 0; place < 8; place++) {
                due("falls " + place + ", begun by " + begins, x.falls(place), place == 2 ? 2 : 0);
                due("best " + place + ", begun by " + begins, x.best(place), (place < 3) == (begins % 2 == 0) ? 2 - place / 4 : 0);
            }
        }
    }

    private static void judged(int begins, String cards, int[] shorts) {
        LastTrick x = told(FOUR_SPADES, begins, cards);
        for (int place = 0; place < 4; place++) {
            due(cards + " falls " + place, x.falls(place), shorts[place]);
        }
    }

    private static void knows() {
        sentence(26, "BAD; NOT.");
        beyondAheadOfNot("knows", 0, 3, (x, chair) -> x.knows(chair, 0));
        beyondAheadOfNot("knows at", 0, 3, (x, k) -> x.knows(0, k));
        for (Standing standing : WITHOUT_ROW) {
            refused(standing, "knows", x -> x.knows(0, 0), NOT);
            refused(standing, "knows 3 at 3", x -> x.knows(3, 3), NOT);
        }
        sentence(0, "what the GAME, THE TABLE have not is BAD behind it");
        refused(Standing.ROW, "chair 3 of three", x -> x.knows(3, 0), BAD);
        refused(Standing.ROW, "trick 2 of two", x -> x.knows(0, 2), BAD);
        refused(Standing.ROW, "trick 3 of two", x -> x.knows(2, 3), BAD);
        sentence(26, "How many HANDS a CHAIR can think at the beginning of TRICK k of the ROW");
        LastTrick x = told(FOUR_CHAIRS, 0, TWELVE);
        int[] hands = {1680, 90, 6};
        for (int chair = 0; chair < 4; chair++) {
            for (int k = 0; k < 3; k++) {
                due("chair " + chair + " at " + k, x.knows(chair, k), hands[k]);
            }
        }
        x = told("n2t4:s0s1s2s3h0h1h2h3-f1l0k0b?", 0, "s0s1s2s3h0h1h2h3");
        for (int k = 0; k < 4; k++) {
            due("one other has all, at " + k, x.knows(1, k), 1);
        }
    }

    private static void whatIsKnown() {
        sentence(0, "by FOLLOW 0, 2: it has none of that SUIT; by 2, if it did not play a TRUMP either, no TRUMP");
        for (String names : namesOfSuits()) {
            // chair 2 does not follow s in trick 0, nor does it play a trump
            String row = Texts.renamed("s2s1h0d0s0h1", names);
            int[] atOne = {2, 2, 1};
            LastTrick x = with(Texts.renamed("n3t2:s0s1s2h0h1d0+df2l0k0b?", names));
            for (int law = 2; law >= 0; law--) {
                x.set(4, law);
                due("row", Texts.row(x, 0, row), NONE);
                due("nothing was played ahead of trick 0", x.knows(1, 0), 6);
                due("chair 1 by law " + law + " as " + names, x.knows(1, 1), atOne[law]);
            }
            x.set(3, -1);
            x.set(4, 2);
            due("row", Texts.row(x, 0, row), NONE);
            due("no trumps", x.knows(1, 1), 2);
        }
        sentence(0, "each as many as it still has, none of a SUIT that it is known to lack");
        for (String names : namesOfSuits()) {
            // chair 2 has no s, so chair 1 has s0
            LastTrick x = with(Texts.renamed("n3t2:s0s1s2h0h1h2-f0l0k0b?", names));
            due("row", Texts.row(x, 0, Texts.renamed("s2s1h0h1s0h2", names)), NONE);
            due("chair 0 sees one way", x.knows(0, 1), 1);
            due("chair 1 sees two", x.knows(1, 1), 2);
            due("chair 2 sees two", x.knows(2, 1), 2);
            due("another row", Texts.row(x, 0, Texts.renamed("s2s1s0h2h1h0", names)), NONE);
            due("all have followed", x.knows(0, 1), 2);
        }
    }

    private static void counts() {
        sentence(27, "BAD.");
        for (Standing standing : new Standing[] {Standing.NOTHING, Standing.GAME, Standing.ALL}) {
            beyond(standing, "count", 0, 2, LastTrick::count);
        }
        sentence(27, "0 CLUES, 1 UNSEEN CARDS");
        due("no clues", new LastTrick().count(0), 0);
        due("no clues of a game", Standing.GAME.make().count(0), 0);
        due("six clues", Standing.FULL.make().count(0), 6);
        due("none unseen without a table", new LastTrick().count(1), 0);
        due("none unseen without a table", Standing.ROW.make().count(1), 0);
        due("none unseen", with(FOUR_SPADES, "s0s1;s2s3").count(1), 0);
        due("three unseen", with(FOUR_SPADES, "?s1;??").count(1), 3);
        sentence(27, "2 TRICKS that SIDE 0 won by the ROW (-4: no ROW)");
        for (Standing standing : WITHOUT_ROW) {
            refused(standing, "count 2", x -> x.count(2), NONE);
        }
        due("none", told(FOUR_SPADES, 1, "s3s2s1s0").count(2), 0);
        due("all four", told("n2t4:s0s1s2s3h0h1h2h3-f0l0k0b?", 0, "s0h0s1h1s2h2s3h3").count(2), 4);
        due("chairs 2, 1 and 0", told(FOUR_CHAIRS, 3, TWELVE).count(2), 2);
    }
}
