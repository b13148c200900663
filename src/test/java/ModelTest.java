import java.util.ArrayList;
import java.util.Collections;
import java.util.List;
import java.util.Random;

/**
 * Runs of up to 512 calls in any order, on LastTrick and on a plain program that keeps nothing but what was told: each
 * answer must be alike. So it is seen that no call leaves behind what a later one should not find.
 */
public final class ModelTest {
    private static final int MOST_CALLS = 512, WRONG_SHOWN = 20;
    private static final int[] ODD = {-1, -2, 3, 4, 5, 11, 12, 13, 15, 16, 24, 25, 29, 30, 255, 256, 65536, Integer.MIN_VALUE,
        Integer.MAX_VALUE};
    private static int wrong = 0;
    private static long asked = 0;

    private final Random r;
    private final long seed;
    private final LastTrick x = new LastTrick();
    private final Plain y = new Plain();
    private final int mostCards;
    private int calls = 0;
    private String last = "";

    private ModelTest(long seed, int mostCards) {
        this.seed = seed;
        this.mostCards = mostCards;
        r = new Random(seed);
    }

    public static void main(String[] args) {
        long from = args.length > 0 ? Long.parseLong(args[0]) : 0;
        long many = args.length > 1 ? Long.parseLong(args[1]) : 400;
        for (long seed = from; seed < from + many; seed++) {
            new ModelTest(seed, seed % 20 == 0 ? 12 : seed % 4 == 0 ? 8 : 6).run();
        }
        System.out.println(asked + " answers, " + wrong + " wrong");
        if (wrong != 0) {
            System.exit(1);
        }
    }

    private void due(String call, long got, long want) {
        asked++;
        calls++;
        if (got != want) {
            wrong++;
            if (wrong < WRONG_SHOWN) {
                System.out.println("seed " + seed + ", call " + calls + ": " + call + " answered " + got + ", due is " + want
                    + " behind" + last);
            }
        }
        last = last.length() > 1000 ? last.substring(500) + "; " + call : last + "; " + call;
    }

    private void run() {
        while (calls < MOST_CALLS - 100) {
            int which = r.nextInt(40);
            if (which < 2 || calls == 0 && which < 36) {
                newGame();
                if (r.nextInt(4) != 0) {
                    newTable();
                }
            } else if (which < 7) {
                newTable();
            } else if (which < 11) {
                newRow();
            } else if (which < 14) {
                change();
            } else if (which < 17) {
                askText();
            } else if (which < 25) {
                askPlays();
            } else if (which < 30) {
                askRow();
            } else if (which < 34) {
                askSheets();
            } else if (which == 34) {
                due("image", x.image(), y.image());
            } else if (which == 35) {
                due("restore", x.restore(), y.restore());
            } else {
                lookAtAll();
            }
        }
    }

    /** A number that is mostly within bounds. */
    private int some(int least, int most) {
        return r.nextInt(12) == 0 ? ODD[r.nextInt(ODD.length)] : least + r.nextInt(most - least + 1);
    }

    private void type(String text) {
        for (int i = 0; i < text.length();) {
            int n = Math.min(text.length() - i, r.nextInt(5) == 0 ? 1 + r.nextInt(8) : 8);
            long w = r.nextInt(3) == 0 ? r.nextLong() : 0;
            for (int j = 0; j < n; j++) {
                w = w << 8 | text.charAt(i + j);
            }
            due("type " + text.substring(i, i + n), x.type(w, n), y.type(w, n));
            i += n;
        }
    }

    /** A text as it is, with blanks, or with a byte too many, too few, or another one. */
    private String spoilt(String text) {
        String bytes = "ntshdc0123456+-flkb?;: x";
        StringBuilder b = new StringBuilder(text);
        int blanks = r.nextInt(3) == 0 ? r.nextInt(6) : 0;
        for (int i = 0; i < blanks; i++) {
            b.insert(r.nextInt(b.length() + 1), ' ');
        }
        int faults = r.nextInt(4) == 0 ? 1 + r.nextInt(2) : 0;
        for (int i = 0; i < faults && b.length() > 0; i++) {
            int at = r.nextInt(b.length());
            char c = bytes.charAt(r.nextInt(bytes.length()));
            switch (r.nextInt(4)) {
                case 0:
                    b.insert(at, c);
                    break;
                case 1:
                    b.deleteCharAt(at);
                    break;
                case 2:
                    b.setCharAt(at, c);
                    break;
                default:
                    b.setLength(at);
                    break;
            }
        }
        return b.toString();
    }

    private void newGame() {
        int chairs;
        int tricks;
        do {
            chairs = 2 + r.nextInt(3);
            tricks = 1 + r.nextInt(4);
        } while (chairs * tricks > mostCards);
        List<Integer> all = new ArrayList<>();
        for (int card = 0; card < 16; card++) {
            all.add(card);
        }
        Collections.shuffle(all, r);
        StringBuilder b = new StringBuilder("n" + chairs + "t" + tricks + ":");
        for (int i = 0; i < chairs * tricks; i++) {
            b.append("shdc".charAt(all.get(i) / 4)).append(all.get(i) % 4);
        }
        b.append(r.nextInt(3) == 0 ? "-" : "+" + "shdc".charAt(r.nextInt(4)));
        b.append("f").append(r.nextInt(3)).append("l").append(r.nextInt(2)).append("k").append(r.nextInt(2));
        b.append("b").append("0123??".charAt(r.nextInt(6)));
        type(spoilt(b.toString()));
        due("game", x.game(), y.game());
    }

    /** A table that a play, lawful or not, leaves, some cards of it unseen, or nearly so. */
    private void newTable() {
        List<Integer> cards = new ArrayList<>(y.pack());
        Collections.shuffle(cards, r);
        String text = y.tableOf(r.nextInt(4), cards);
        if (text != null) {
            StringBuilder b = new StringBuilder(text);
            int unseen = r.nextInt(5);
            for (int i = 0; i < unseen; i++) {
                int at = r.nextInt(b.length());
                if ("shdc".indexOf(b.charAt(at)) >= 0) {
                    b.replace(at, at + 2, "?");
                }
            }
            type(spoilt(b.toString()));
        }
        due("table", x.table(), y.table());
    }

    /** A row that is tried until it is lawful, or not; it lies on a sheet from some item on. */
    private void newRow() {
        int sheet = r.nextInt(4);
        int lane = r.nextInt(3);
        int from = r.nextInt(4);
        List<Integer> cards = new ArrayList<>(y.pack());
        int n = Math.max(0, cards.size() + from - (r.nextInt(8) == 0 ? 1 : 0));
        due("sheet " + sheet, x.sheet(sheet, lane, n), y.sheet(sheet, lane, n));
        boolean told = false;
        for (int tries = 0; tries < 3 && !told && calls < MOST_CALLS - 100; tries++) {
            Collections.shuffle(cards, r);
            for (int i = 0; i < cards.size(); i++) {
                int v = r.nextInt(60) == 0 ? some(0, 15) : r.nextInt(20) == 0 ? cards.get(i) + 65536 : cards.get(i);
                due("item", x.item(sheet, lane, from + i, v), y.item(sheet, lane, from + i, v));
            }
            int begins = some(0, 2);
            int answer = y.row(begins, sheet, lane, from);
            due("row " + begins + " " + cards, x.row(begins, sheet, lane, from), answer);
            told = answer == -4;
        }
    }

    private void change() {
        switch (r.nextInt(4)) {
            case 0:
                int what = some(3, 7);
                int v = some(-1, 2);
                due("set " + what + " " + v, x.set(what, v), y.set(what, v));
                break;
            case 1:
                due("forget", x.forget(), y.forget());
                break;
            default:
                int clues = 1 + r.nextInt(4);
                for (int i = 0; i < clues; i++) {
                    newClue();
                }
                break;
        }
    }

    private void newClue() {
        int kind = some(0, 3);
        int a = kind == 2 ? someCard() : some(0, 2);
        int b = kind == 0 || kind == 2 ? someCard() : some(0, 2);
        int c = kind == 3 ? some(0, 2) : some(0, 0);
        due("clue " + kind + " " + a + " " + b + " " + c, x.clue(kind, a, b, c), y.clue(kind, a, b, c));
    }

    private int someCard() {
        List<Integer> pack = y.pack();
        return pack.isEmpty() || r.nextInt(8) == 0 ? some(0, 15) : pack.get(r.nextInt(pack.size()));
    }

    private void askText() {
        int a = some(0, 2);
        int b = some(-1, 5);
        int digits = r.nextInt(8) == 0 ? r.nextInt() : someCard() & 15 | (someCard() & 15) << 4 | (someCard() & 15) << 8
            | (someCard() & 15) << 12;
        long w = r.nextInt(3) == 0 ? r.nextLong() : 0x20202020L;
        switch (r.nextInt(5)) {
            case 0:
                due("type", x.type(w, b), y.type(w, b));
                break;
            case 1:
                due("told " + b, x.told(b), y.told(b));
                break;
            case 2:
                due("heap " + a + " " + b, x.heap(a, b), y.heap(a, b));
                break;
            case 3:
                due("wins " + digits + " " + a, x.wins(digits, a), y.wins(digits, a));
                break;
            default:
                due("count " + a, x.count(a), y.count(a));
                break;
        }
    }

    private void askPlays() {
        int a = some(0, 2);
        int b = some(-1, 2);
        int card = someCard();
        switch (r.nextInt(10)) {
            case 0:
                due("plays", x.plays(), y.plays());
                break;
            case 1:
                due("may " + card, x.may(card), y.may(card));
                break;
            case 2:
                due("sure " + card, x.sure(card), y.sure(card));
                break;
            case 3:
                askUnder(a, b);
                break;
            case 4:
                int what = some(0, 1);
                due("trick " + a + " " + what, x.trick(a, what), y.trick(a, what));
                break;
            case 5:
                int place = some(-1, 6);
                due("first " + place, x.first(place), y.first(place));
                break;
            case 6:
                due("fewest " + b, x.fewest(b), y.fewest(b));
                break;
            case 7:
                due("drops", x.drops(), y.drops());
                break;
            case 8:
                due("turned", x.turned(), y.turned());
                break;
            default:
                int i = some(-1, 29);
                due("others " + i, x.others(i), y.others(i));
                break;
        }
    }

    /** A card of a heap, mostly one that is unseen. */
    private void askUnder(int chair, int i) {
        List<int[]> places = new ArrayList<>();
        places.add(new int[] {chair, i});
        for (int place = 0; place < 48; place++) {
            if (y.heap(place / 12, place % 12) == -4) {
                places.add(new int[] {place / 12, place % 12});
            }
        }
        int[] at = places.get(r.nextInt(places.size()));
        due("under " + at[0] + " " + at[1], x.under(at[0], at[1]), y.under(at[0], at[1]));
    }

    private void askRow() {
        int place = some(0, Math.max(6, y.pack().size()));
        int a = some(0, 2);
        int b = some(0, 1);
        switch (r.nextInt(5)) {
            case 0:
                due("leaves", x.leaves(), y.leaves());
                break;
            case 1:
                due("who " + place + " " + b, x.who(place, b), y.who(place, b));
                break;
            case 2:
                due("best " + place, x.best(place), y.best(place));
                break;
            case 3:
                due("falls " + place, x.falls(place), y.falls(place));
                break;
            default:
                due("knows " + a + " " + b, x.knows(a, b), y.knows(a, b));
                break;
        }
    }

    private void askSheets() {
        int sheet = some(0, 3);
        int lane = some(0, 2);
        int n = some(0, 24);
        switch (r.nextInt(4)) {
            case 0:
                due("sheet " + sheet + " " + lane + " " + n, x.sheet(sheet, lane, n), y.sheet(sheet, lane, n));
                break;
            case 1:
                due("drop " + sheet, x.drop(sheet), y.drop(sheet));
                break;
            case 2:
                int v = some(0, 15);
                due("item " + sheet + " " + lane + " " + n, x.item(sheet, lane, n, v), y.item(sheet, lane, n, v));
                break;
            default:
                int begins = some(0, 3);
                int from = some(0, 4);
                due("row " + begins + " " + sheet + " " + lane + " " + from, x.row(begins, sheet, lane, from),
                    y.row(begins, sheet, lane, from));
                break;
        }
    }

    /** Some forty questions, one behind the other, so that what is kept from one can be seen in the next. */
    private void lookAtAll() {
        for (int i = 0; i < 20; i++) {
            askPlays();
        }
        for (int i = 0; i < 12; i++) {
            askRow();
        }
        for (int i = 0; i < 8; i++) {
            askText();
        }
    }
}
