import java.util.ArrayList;
import java.util.HashMap;
import java.util.List;
import java.util.Map;

/**
 * The whole class once more, as the document tells it and with no thought of speed or room: games, tables, clues, rows
 * and images are lists that are copied, sheets are rows of the machine, and every question goes over all plays anew.
 */
final class Plain {
    private static final int BAD = -1, NOT = -2, FULL = -3, NONE = -4, NULL = -11, CAST = -12, INDEX = -13, SIZE = -14;
    private static final String SUITS = "shdc";
    private static final int UNSEEN = -1;

    private String tape = "";
    private Things now = new Things();
    private Things kept;
    private final Object[] sheets = new Object[4];
    /** What was gone over before: the things that plays hang on, and their plays. */
    private final Map<String, List<Play>> known = new HashMap<>();

    /** What an image keeps; a list that was put here is never changed. */
    private static final class Things {
        /** Chairs, tricks, pack, trump, follow, leads, kept, begins: as told() numbers them. */
        int[] laws;
        List<Integer> pack;
        List<List<Integer>> heaps;
        List<int[]> clues = List.of();
        Play row;

        Things copy() {
            Things t = new Things();
            t.laws = laws == null ? null : laws.clone();
            t.pack = pack;
            t.heaps = heaps;
            t.clues = clues;
            t.row = row;
            return t;
        }
    }

    /** A row, played forward by some laws. */
    private static final class Play {
        final int begins;
        final int[] cards, players, leaders, winners;
        final boolean[] breaches;
        List<List<Integer>> filled;

        Play(int[] laws, int begins, int[] cards) {
            this.begins = begins;
            this.cards = cards;
            int n = laws[0];
            players = new int[cards.length];
            leaders = new int[laws[1]];
            winners = new int[laws[1]];
            breaches = new boolean[cards.length];
            for (int k = 0; k < laws[1]; k++) {
                leaders[k] = k == 0 ? begins : laws[5] == 0 ? winners[k - 1] : (leaders[k - 1] + 1) % n;
                int top = k * n;
                for (int i = k * n; i < (k + 1) * n; i++) {
                    players[i] = (leaders[k] + i - k * n) % n;
                    top = beats(cards[i], cards[top], laws[3]) ? i : top;
                }
                winners[k] = players[top];
            }
            for (int i = 0; i < cards.length; i++) {
                breaches[i] = i % n != 0 && !lets(laws, cards[i], cards[i - i % n] / 4, hand(players[i], i));
            }
        }

        List<Integer> hand(int chair, int from) {
            List<Integer> hand = new ArrayList<>();
            for (int i = from; i < cards.length; i++) {
                if (players[i] == chair) {
                    hand.add(cards[i]);
                }
            }
            return hand;
        }

        int placeOf(int card) {
            for (int i = 0; i < cards.length; i++) {
                if (cards[i] == card) {
                    return i;
                }
            }
            return -1;
        }

        int breachesOf(int chair) {
            int sum = 0;
            for (int i = 0; i < cards.length; i++) {
                sum += breaches[i] && (chair < 0 || players[i] == chair) ? 1 : 0;
            }
            return sum;
        }
    }

    private static boolean beats(int card, int top, int trump) {
        return card / 4 == top / 4 ? card % 4 > top % 4 : card / 4 == trump;
    }

    private static boolean lets(int[] laws, int card, int led, List<Integer> hand) {
        boolean hasLed = hand.stream().anyMatch(c -> c / 4 == led);
        boolean hasTrump = hand.stream().anyMatch(c -> c / 4 == laws[3]);
        switch (laws[4]) {
            case 0:
                return card / 4 == led || !hasLed;
            case 1:
                return true;
            default:
                return hasLed ? card / 4 == led : !hasTrump || card / 4 == laws[3];
        }
    }

    private static boolean within(int number, int least, int most) {
        return least <= number && number <= most;
    }

    private int cards() {
        return now.laws[0] * now.laws[1];
    }

    // ---- 1 games, tables

    int type(long w, int n) {
        if (!within(n, 1, 8)) {
            return BAD;
        }
        StringBuilder bytes = new StringBuilder();
        for (int i = 0; i < n; i++) {
            bytes.insert(0, (char) (w >>> 8 * i & 255));
        }
        if (!bytes.toString().chars().allMatch(b -> within(b, 32, 126))) {
            return BAD;
        }
        if (tape.length() + n > 80) {
            return FULL;
        }
        tape += bytes;
        return tape.length();
    }

    /** Reads a text without its blanks; where it stands is told with them. */
    private static final class Reader {
        final String text;
        final String bare;
        int at;

        Reader(String text) {
            this.text = text;
            bare = text.replace(" ", "");
        }

        char next() {
            return at < bare.length() ? bare.charAt(at) : 0;
        }

        int fault() {
            int left = at;
            for (int i = 0; i < text.length(); i++) {
                if (text.charAt(i) != ' ' && left-- == 0) {
                    return -20 - i;
                }
            }
            return -20 - text.length();
        }

        /** The index of the next byte in some that may stand there, or -1. */
        int oneOf(String some) {
            int i = next() == 0 ? -1 : some.indexOf(next());
            at += i < 0 ? 0 : 1;
            return i;
        }
    }

    int game() {
        Reader r = new Reader(tape);
        tape = "";
        int[] laws = new int[8];
        List<Integer> pack = new ArrayList<>();
        if (!readGame(r, laws, pack)) {
            return r.fault();
        }
        now = new Things();
        now.laws = laws;
        now.pack = pack;
        return pack.size();
    }

    private static boolean readGame(Reader r, int[] laws, List<Integer> pack) {
        if (r.oneOf("n") < 0 || (laws[0] = 2 + r.oneOf("234")) < 2 || r.oneOf("t") < 0) {
            return false;
        }
        String tricks = laws[0] == 4 ? "123" : "1234";
        if ((laws[1] = 1 + r.oneOf(tricks)) < 1 || r.oneOf(":") < 0) {
            return false;
        }
        while (pack.size() < laws[0] * laws[1]) {
            int suit = r.oneOf(SUITS);
            if (suit < 0) {
                return false;
            }
            int rank = r.oneOf("0123");
            if (rank < 0) {
                return false;
            }
            if (pack.contains(4 * suit + rank)) {
                r.at--;
                return false;
            }
            pack.add(4 * suit + rank);
            laws[2] |= 1 << 4 * suit + rank;
        }
        int trump = r.oneOf("+-");
        laws[3] = trump == 0 ? r.oneOf(SUITS) : -1;
        if (trump < 0 || trump == 0 && laws[3] < 0) {
            return false;
        }
        String[] digits = {"f", "012", "l", "01", "k", "01"};
        for (int i = 0; i < 3; i++) {
            if (r.oneOf(digits[2 * i]) < 0 || (laws[4 + i] = r.oneOf(digits[2 * i + 1])) < 0) {
                return false;
            }
        }
        if (r.oneOf("b") < 0) {
            return false;
        }
        int begins = r.oneOf("0123".substring(0, laws[0]) + "?");
        laws[7] = begins == laws[0] ? -1 : begins;
        return begins >= 0 && r.next() == 0;
    }

    int table() {
        Reader r = new Reader(tape);
        tape = "";
        if (now.laws == null) {
            return NOT;
        }
        List<List<Integer>> heaps = new ArrayList<>();
        if (!readTable(r, heaps)) {
            return r.fault();
        }
        now.heaps = heaps;
        return count(1);
    }

    private boolean readTable(Reader r, List<List<Integer>> heaps) {
        List<Integer> all = new ArrayList<>();
        for (int c = 0; c < now.laws[0]; c++) {
            if (c > 0 && r.oneOf(";") < 0) {
                return false;
            }
            List<Integer> heap = new ArrayList<>();
            heaps.add(heap);
            while (r.next() != 0 && (SUITS + "?").indexOf(r.next()) >= 0) {
                if (all.size() == cards()) {
                    return false;
                }
                int card = UNSEEN;
                if (r.next() == '?') {
                    if (all.stream().filter(x -> x == UNSEEN).count() == 3) {
                        return false;
                    }
                    r.at++;
                } else {
                    int suit = r.oneOf(SUITS);
                    int rank = r.oneOf("0123");
                    if (rank < 0) {
                        return false;
                    }
                    card = 4 * suit + rank;
                    if (all.contains(card) || !now.pack.contains(card)) {
                        r.at--;
                        return false;
                    }
                }
                heap.add(card);
                all.add(card);
            }
            if (heap.size() % now.laws[0] != 0) {
                return false;
            }
        }
        return r.next() == 0 && all.size() == cards();
    }

    int told(int what) {
        if (!within(what, 0, 7)) {
            return BAD;
        }
        if (now.laws == null) {
            return NOT;
        }
        return now.laws[what] == -1 ? NONE : now.laws[what];
    }

    int set(int what, int v) {
        int[] least = {0, 0, 0, -1, 0, 0, 0, -1};
        int[] most = {-9, -9, -9, 3, 2, 1, 1, 3};
        if (!within(what, 0, 7) || !within(v, least[what], most[what])) {
            return BAD;
        }
        if (now.laws == null) {
            return NOT;
        }
        if (what == 7 && v >= now.laws[0]) {
            return BAD;
        }
        now.laws = now.laws.clone();
        now.laws[what] = v;
        now.row = null;
        return 1;
    }

    int heap(int chair, int i) {
        if (!within(chair, 0, 3) || !within(i, -1, 11)) {
            return BAD;
        }
        if (now.heaps == null) {
            return NOT;
        }
        if (chair >= now.laws[0] || i >= now.heaps.get(chair).size()) {
            return BAD;
        }
        int card = i < 0 ? now.heaps.get(chair).size() : now.heaps.get(chair).get(i);
        return card == UNSEEN ? NONE : card;
    }

    int wins(int cards, int leader) {
        if (!within(cards, 0, 65535) || !within(leader, 0, 3)) {
            return BAD;
        }
        if (now.laws == null) {
            return NOT;
        }
        int n = now.laws[0];
        List<Integer> trick = new ArrayList<>();
        for (int j = 0; j < n; j++) {
            int card = cards / (int) Math.pow(16, j) % 16;
            if (trick.contains(card) || !now.pack.contains(card)) {
                return BAD;
            }
            trick.add(card);
        }
        int top = 0;
        for (int j = 1; j < n; j++) {
            top = beats(trick.get(j), trick.get(top), now.laws[3]) ? j : top;
        }
        return leader >= n ? BAD : (leader + top) % n;
    }

    // ---- 2 plays

    int clue(int kind, int a, int b, int c) {
        int[][] most = {{3, 15, 0}, {3, 3, 0}, {15, 15, 0}, {3, 3, 3}};
        if (!within(kind, 0, 3) || !within(a, 0, most[kind][0]) || !within(b, 0, most[kind][1])
            || !within(c, 0, most[kind][2]) || kind == 2 && a == b) {
            return BAD;
        }
        if (now.laws == null) {
            return NOT;
        }
        boolean chair = kind == 2 ? now.pack.contains(a) : a < now.laws[0];
        boolean card = kind == 0 || kind == 2 ? now.pack.contains(b) : kind != 1 || b < now.laws[1];
        if (!chair || !card || c >= now.laws[1]) {
            return BAD;
        }
        if (now.clues.size() == 6) {
            return FULL;
        }
        now.clues = new ArrayList<>(now.clues);
        now.clues.add(new int[] {kind, a, b, c});
        return now.clues.size() - 1;
    }

    int forget() {
        int many = now.clues.size();
        now.clues = List.of();
        return many;
    }

    private boolean letsClue(Play p, int[] clue) {
        int n = now.laws[0];
        switch (clue[0]) {
            case 0:
                return p.players[p.placeOf(clue[2])] == clue[1];
            case 1:
                return p.leaders[clue[2]] == clue[1];
            case 2:
                return p.placeOf(clue[1]) / n < p.placeOf(clue[2]) / n;
            default:
                return p.hand(clue[1], clue[3] * n).stream().noneMatch(card -> card / 4 == clue[2]);
        }
    }

    private int brokenBy(Play p) {
        int bits = 0;
        for (int i = 0; i < now.clues.size(); i++) {
            bits |= letsClue(p, now.clues.get(i)) ? 0 : 1 << i;
        }
        return bits;
    }

    /** Every play that leaves the heaps by some laws, breaches and clues aside. */
    private List<Play> every(int[] laws, List<List<Integer>> heaps) {
        String key = java.util.Arrays.toString(laws) + heaps;
        List<Play> found = known.get(key);
        if (found == null) {
            if (known.size() > 100) {
                known.clear();
            }
            found = new ArrayList<>();
            List<Integer> lacking = new ArrayList<>(now.pack);
            heaps.forEach(lacking::removeAll);
            for (List<List<Integer>> filled : fillings(heaps, lacking)) {
                for (int begins = 0; begins < laws[0]; begins++) {
                    if (laws[7] < 0 || laws[7] == begins) {
                        lay(laws, filled, begins, new ArrayList<>(), found);
                    }
                }
            }
            known.put(key, found);
        }
        return found;
    }

    private static List<List<List<Integer>>> fillings(List<List<Integer>> heaps, List<Integer> lacking) {
        List<List<List<Integer>>> all = new ArrayList<>();
        for (List<Integer> order : orders(lacking)) {
            List<List<Integer>> filled = new ArrayList<>();
            int at = 0;
            for (List<Integer> heap : heaps) {
                List<Integer> full = new ArrayList<>();
                for (int card : heap) {
                    full.add(card == UNSEEN ? order.get(at++) : card);
                }
                filled.add(full);
            }
            all.add(filled);
        }
        return all;
    }

    private static List<List<Integer>> orders(List<Integer> some) {
        List<List<Integer>> all = new ArrayList<>();
        if (some.isEmpty()) {
            all.add(List.of());
        }
        for (Integer first : some) {
            List<Integer> rest = new ArrayList<>(some);
            rest.remove(first);
            for (List<Integer> order : orders(rest)) {
                List<Integer> whole = new ArrayList<>();
                whole.add(first);
                whole.addAll(order);
                all.add(whole);
            }
        }
        return all;
    }

    /** Takes the next trick from any heap, in any order that it may have had, until all are taken. */
    private static void lay(int[] laws, List<List<Integer>> heaps, int begins, List<Integer> so, List<Play> found) {
        int n = laws[0];
        int[] taken = new int[n];
        if (!so.isEmpty()) {
            int[] part = laws.clone();
            part[1] = so.size() / n;
            Play p = new Play(part, begins, so.stream().mapToInt(i -> i).toArray());
            for (int k = 0; k < part[1]; k++) {
                int winner = p.winners[k];
                int from = n * taken[winner];
                if (from >= heaps.get(winner).size() || !heaps.get(winner).subList(from, from + n)
                    .containsAll(so.subList(k * n, (k + 1) * n))) {
                    return;
                }
                taken[winner]++;
            }
            if (part[1] == laws[1]) {
                p.filled = heaps;
                found.add(p);
                return;
            }
        }
        for (int c = 0; c < n; c++) {
            if (n * taken[c] < heaps.get(c).size()) {
                List<Integer> trick = heaps.get(c).subList(n * taken[c], n * taken[c] + n);
                for (List<Integer> order : laws[6] == 0 ? List.of(trick) : orders(trick)) {
                    List<Integer> longer = new ArrayList<>(so);
                    longer.addAll(order);
                    lay(laws, heaps, begins, longer, found);
                }
            }
        }
    }

    private List<Play> good(int[] laws, List<List<Integer>> heaps) {
        List<Play> good = new ArrayList<>();
        for (Play p : every(laws, heaps)) {
            if (p.breachesOf(-1) == 0 && brokenBy(p) == 0) {
                good.add(p);
            }
        }
        return good;
    }

    private List<Play> good() {
        return good(now.laws, now.heaps);
    }

    long plays() {
        return now.heaps == null ? NOT : good().size();
    }

    int may(int card) {
        if (!within(card, 0, 15)) {
            return BAD;
        }
        if (now.heaps == null) {
            return NOT;
        }
        if (!now.pack.contains(card)) {
            return BAD;
        }
        int bits = 0;
        for (Play p : good()) {
            bits |= 1 << p.players[p.placeOf(card)];
        }
        return bits;
    }

    int sure(int card) {
        int bits = may(card);
        if (bits < 0) {
            return bits;
        }
        return bits == 1 ? 0 : bits == 2 ? 1 : bits == 4 ? 2 : bits == 8 ? 3 : NONE;
    }

    int under(int chair, int i) {
        int card = i == -1 ? BAD : heap(chair, i);
        if (card == BAD || card == NOT) {
            return card;
        }
        if (card != NONE) {
            return NOT;
        }
        int bits = 0;
        for (Play p : good()) {
            bits |= 1 << p.filled.get(chair).get(i);
        }
        return bits;
    }

    int trick(int k, int what) {
        if (!within(k, 0, 3) || !within(what, 0, 1)) {
            return BAD;
        }
        if (now.heaps == null) {
            return NOT;
        }
        if (k >= now.laws[1]) {
            return BAD;
        }
        int bits = 0;
        for (Play p : good()) {
            bits |= 1 << (what == 0 ? p.leaders : p.winners)[k];
        }
        return bits;
    }

    int first(int i) {
        if (!within(i, -1, 11)) {
            return BAD;
        }
        if (now.heaps == null) {
            return NOT;
        }
        if (i >= cards()) {
            return BAD;
        }
        Play least = null;
        for (Play p : good()) {
            boolean less = least == null || p.begins < least.begins
                || p.begins == least.begins && java.util.Arrays.compare(p.cards, least.cards) < 0;
            least = less ? p : least;
        }
        return least == null ? NONE : i < 0 ? least.begins : least.cards[i];
    }

    int fewest(int chair) {
        if (!within(chair, -1, 3)) {
            return BAD;
        }
        if (now.heaps == null) {
            return NOT;
        }
        if (chair >= now.laws[0]) {
            return BAD;
        }
        int fewest = NONE;
        for (Play p : every(now.laws, now.heaps)) {
            int all = p.breachesOf(-1);
            if (brokenBy(p) == 0 && (chair < 0 || p.breachesOf(chair) == 0) && (fewest == NONE || all < fewest)) {
                fewest = all;
            }
        }
        return fewest;
    }

    int drops() {
        if (now.heaps == null) {
            return NOT;
        }
        for (int many = 0; many <= now.clues.size(); many++) {
            for (int bits = 0; bits < 1 << now.clues.size(); bits++) {
                int dropped = bits;
                if (Integer.bitCount(bits) == many && every(now.laws, now.heaps).stream()
                    .anyMatch(p -> p.breachesOf(-1) == 0 && (brokenBy(p) & ~dropped) == 0)) {
                    return bits;
                }
            }
        }
        return NONE;
    }

    int turned() {
        if (now.heaps == null) {
            return NOT;
        }
        int n = now.laws[0];
        int bits = 0;
        for (int c = 0; c < n; c++) {
            List<Integer> heap = now.heaps.get(c);
            List<Integer> back = new ArrayList<>();
            for (int i = 0; i < heap.size(); i += n) {
                back.addAll(0, heap.subList(i, i + n));
            }
            List<List<Integer>> heaps = new ArrayList<>(now.heaps);
            heaps.set(c, back);
            bits |= good(now.laws, heaps).isEmpty() ? 0 : 1 << c;
        }
        return bits;
    }

    int others(int i) {
        if (!within(i, -1, 29)) {
            return BAD;
        }
        if (now.heaps == null) {
            return NOT;
        }
        List<Integer> fit = new ArrayList<>();
        int number = 0;
        for (int trump = -1; trump < 4; trump++) {
            for (int follow = 0; follow < 3; follow++) {
                for (int leads = 0; leads < 2; leads++) {
                    int[] laws = now.laws.clone();
                    laws[3] = trump;
                    laws[4] = follow;
                    laws[5] = leads;
                    if (!good(laws, now.heaps).isEmpty()) {
                        fit.add(number);
                    }
                    number++;
                }
            }
        }
        return i < 0 ? fit.size() : i < fit.size() ? fit.get(i) : NONE;
    }

    // ---- 3 rows

    private static int laneOf(Object row) {
        return row instanceof byte[] ? 0 : row instanceof short[] ? 1 : 2;
    }

    private static int sizeOf(Object row) {
        return java.lang.reflect.Array.getLength(row);
    }

    int row(int begins, int sheet, int lane, int from) {
        if (!within(begins, 0, 3) || !within(sheet, 0, 3) || !within(lane, 0, 2)) {
            return BAD;
        }
        if (now.laws == null) {
            return NOT;
        }
        if (begins >= now.laws[0]) {
            return BAD;
        }
        Object items = sheets[sheet];
        if (items == null) {
            return NULL;
        }
        if (laneOf(items) != lane) {
            return CAST;
        }
        if (from < 0 || (long) from + cards() > sizeOf(items)) {
            return INDEX;
        }
        int[] cards = new int[cards()];
        List<Integer> ahead = new ArrayList<>();
        for (int i = 0; i < cards.length; i++) {
            cards[i] = java.lang.reflect.Array.getInt(items, from + i);
            if (!now.pack.contains(cards[i]) || ahead.contains(cards[i])) {
                return i;
            }
            ahead.add(cards[i]);
        }
        Play p = new Play(now.laws, begins, cards);
        for (int i = 0; i < cards.length; i++) {
            if (p.breaches[i]) {
                return i;
            }
        }
        now.row = p;
        return NONE;
    }

    int leaves() {
        if (now.row == null || now.heaps == null) {
            return NOT;
        }
        int n = now.laws[0];
        for (int c = 0; c < n; c++) {
            List<Integer> won = new ArrayList<>();
            for (int i = 0; i < cards(); i++) {
                if (now.row.winners[i / n] == c) {
                    won.add(now.row.cards[i]);
                }
            }
            List<Integer> heap = now.heaps.get(c);
            if (won.size() != heap.size()) {
                return c;
            }
            for (int i = 0; i < won.size(); i++) {
                int from = i / n * n;
                boolean there = now.laws[6] == 0 ? won.get(i).equals(heap.get(i))
                    : won.subList(from, from + n).contains(heap.get(i));
                if (heap.get(i) != UNSEEN && !there) {
                    return c;
                }
            }
        }
        return now.laws[7] >= 0 && now.laws[7] != now.row.begins ? 4 : NONE;
    }

    private int refusalOfPlace(int place, int end) {
        if (!within(place, 0, 11 + end)) {
            return BAD;
        }
        if (now.row == null) {
            return NOT;
        }
        return place < cards() + end ? 0 : BAD;
    }

    int who(int place, int what) {
        if (!within(what, 0, 1)) {
            return BAD;
        }
        int refusal = refusalOfPlace(place, 0);
        if (refusal < 0) {
            return refusal;
        }
        return what == 0 ? now.row.players[place] : now.row.winners[place / now.laws[0]];
    }

    int best(int place) {
        int refusal = refusalOfPlace(place, 1);
        return refusal < 0 ? refusal : bestWith(place) - wonAhead(place);
    }

    /** Tricks of side 0, those ahead of a place and the best from there on. */
    private int bestWith(int place) {
        List<List<Integer>> hands = new ArrayList<>();
        for (int c = 0; c < now.laws[0]; c++) {
            hands.add(now.row.hand(c, place));
        }
        List<Integer> so = new ArrayList<>();
        for (int i = 0; i < place; i++) {
            so.add(now.row.cards[i]);
        }
        return reach(so, hands);
    }

    private int wonAhead(int place) {
        int won = 0;
        for (int k = 0; k < place / now.laws[0]; k++) {
            won += now.row.winners[k] % 2 == 0 ? 1 : 0;
        }
        return won;
    }

    private int reach(List<Integer> so, List<List<Integer>> hands) {
        int n = now.laws[0];
        int whole = so.size() / n;
        int[] part = now.laws.clone();
        part[1] = whole;
        int[] over = so.subList(0, whole * n).stream().mapToInt(i -> i).toArray();
        Play p = new Play(part, now.row.begins, over);
        if (so.size() == cards()) {
            int won = 0;
            for (int winner : p.winners) {
                won += winner % 2 == 0 ? 1 : 0;
            }
            return won;
        }
        int leader = whole == 0 ? now.row.begins : now.laws[5] == 0 ? p.winners[whole - 1] : (p.leaders[whole - 1] + 1) % n;
        int chair = (leader + so.size() - whole * n) % n;
        int best = -1;
        for (Integer card : new ArrayList<>(hands.get(chair))) {
            if (so.size() % n == 0 || lets(now.laws, card, so.get(whole * n) / 4, hands.get(chair))) {
                hands.get(chair).remove(card);
                so.add(card);
                int found = reach(so, hands);
                so.remove(so.size() - 1);
                hands.get(chair).add(card);
                best = best < 0 || (chair % 2 == 0 ? found > best : found < best) ? found : best;
            }
        }
        return best;
    }

    int falls(int place) {
        int refusal = refusalOfPlace(place, 0);
        if (refusal < 0) {
            return refusal;
        }
        int less = bestWith(place) - bestWith(place + 1);
        return now.row.players[place] % 2 == 0 ? less : -less;
    }

    int knows(int chair, int k) {
        if (!within(chair, 0, 3) || !within(k, 0, 3)) {
            return BAD;
        }
        if (now.row == null) {
            return NOT;
        }
        int n = now.laws[0];
        if (chair >= n || k >= now.laws[1]) {
            return BAD;
        }
        List<Integer> hidden = new ArrayList<>();
        List<String> lacks = new ArrayList<>();
        for (int i = 0; i < cards(); i++) {
            int player = now.row.players[i];
            int suit = now.row.cards[i] / 4;
            int led = now.row.cards[i / n * n] / 4;
            if (i >= k * n && player != chair) {
                hidden.add(now.row.cards[i]);
            }
            if (i < k * n && suit != led && now.laws[4] != 1) {
                lacks.add(player + " " + led);
                if (now.laws[4] == 2 && suit != now.laws[3]) {
                    lacks.add(player + " " + now.laws[3]);
                }
            }
        }
        int[] room = new int[n];
        java.util.Arrays.fill(room, now.laws[1] - k);
        room[chair] = 0;
        return deals(hidden, 0, room, lacks);
    }

    private static int deals(List<Integer> hidden, int from, int[] room, List<String> lacks) {
        if (from == hidden.size()) {
            return 1;
        }
        int ways = 0;
        for (int c = 0; c < room.length; c++) {
            if (room[c] > 0 && !lacks.contains(c + " " + hidden.get(from) / 4)) {
                room[c]--;
                ways += deals(hidden, from + 1, room, lacks);
                room[c]++;
            }
        }
        return ways;
    }

    int count(int what) {
        if (!within(what, 0, 2)) {
            return BAD;
        }
        if (what == 0) {
            return now.clues.size();
        }
        if (what == 1) {
            int unseen = 0;
            for (List<Integer> heap : now.heaps == null ? List.<List<Integer>>of() : now.heaps) {
                unseen += heap.stream().filter(card -> card == UNSEEN).count();
            }
            return unseen;
        }
        return now.row == null ? NONE : wonAhead(cards());
    }

    int image() {
        kept = now.copy();
        return 1;
    }

    int restore() {
        if (kept == null) {
            return NONE;
        }
        now = kept.copy();
        return 1;
    }

    // ---- 4 sheets

    int sheet(int sheet, int lane, int n) {
        if (!within(sheet, 0, 3) || !within(lane, 0, 2) || n > 24) {
            return BAD;
        }
        if (n < 0) {
            return SIZE;
        }
        sheets[sheet] = lane == 0 ? new byte[n] : lane == 1 ? new short[n] : new int[n];
        return n;
    }

    int drop(int sheet) {
        if (!within(sheet, 0, 3)) {
            return BAD;
        }
        if (sheets[sheet] == null) {
            return NULL;
        }
        int size = sizeOf(sheets[sheet]);
        sheets[sheet] = null;
        return size;
    }

    int item(int sheet, int lane, int i, int v) {
        if (!within(sheet, 0, 3) || !within(lane, 0, 2)) {
            return BAD;
        }
        Object items = sheets[sheet];
        if (items == null) {
            return NULL;
        }
        if (laneOf(items) != lane) {
            return CAST;
        }
        if (!within(i, 0, sizeOf(items) - 1)) {
            return INDEX;
        }
        if (items instanceof byte[] bytes) {
            bytes[i] = (byte) v;
        } else if (items instanceof short[] shorts) {
            shorts[i] = (short) v;
        } else if (items instanceof int[] ints) {
            ints[i] = v;
        }
        return 1;
    }

    // ---- for the test alone, which makes its calls up by what stands

    /** The pack, or nothing. */
    List<Integer> pack() {
        return now.pack == null ? List.of() : now.pack;
    }

    /** The heaps that a row of the pack would leave, as a text; null without a game. */
    String tableOf(int begins, List<Integer> cards) {
        if (now.laws == null) {
            return null;
        }
        Play p = new Play(now.laws, begins % now.laws[0], cards.stream().mapToInt(i -> i).toArray());
        StringBuilder b = new StringBuilder();
        for (int c = 0; c < now.laws[0]; c++) {
            b.append(c > 0 ? ";" : "");
            for (int i = 0; i < cards(); i++) {
                if (p.winners[i / now.laws[0]] == c) {
                    b.append(SUITS.charAt(cards.get(i) / 4)).append(cards.get(i) % 4);
                }
            }
        }
        return b.toString();
    }
}
