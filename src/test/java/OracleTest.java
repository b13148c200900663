import java.util.ArrayList;
import java.util.List;
import java.util.Random;

/**
 * Compares LastTrick with a second program that takes the document's words as they stand: it goes over every order
 * of the pack and every chair that may begin, plays it forward, and looks whether it leaves the table. Of larger packs
 * it goes only over the orders in which the tricks that lie on the table could have come.
 */
public final class OracleTest {
    private static int wrong = 0;
    private static int asked = 0;
    private static LastTrick used = new LastTrick();

    public static void main(String[] args) {
        for (int seed = 0; seed < 500; seed++) {
            compare(seed, 6);
        }
        for (int seed = 5000; seed < 5016; seed++) {
            compare(seed, 8);
        }
        for (int seed = 9000; seed < 9300; seed++) {
            compare(seed, 12);
        }
        System.out.println(asked + " answers, " + wrong + " wrong");
        if (wrong != 0) {
            System.exit(1);
        }
    }

    private static void due(long seed, String call, long got, long want) {
        asked++;
        if (got != want) {
            wrong++;
            if (wrong < 40) {
                System.out.println("seed " + seed + ": " + call + " answered " + got + ", due is " + want);
            }
        }
    }

    /** A game, a table and clues, by plain lists. */
    private static final class World {
        int chairs, tricks, trump, follow, leads, kept, begins;
        List<Integer> pack = new ArrayList<>();
        List<List<Integer>> heaps = new ArrayList<>();
        List<int[]> clues = new ArrayList<>();
    }

    private static final class Told {
        int begins;
        List<Integer> cards;
        int[] player, leader, winner;
        int[] breaches;
        int broken;
        List<List<Integer>> filled;
        int firstBreach = -1;
    }

    private static int suit(int card) {
        return card / 4;
    }

    private static int winnerAt(World w, List<Integer> cards, int from) {
        int best = -1;
        for (int j = 0; j < w.chairs; j++) {
            int card = cards.get(from + j);
            int worth = suit(card) == w.trump ? 100 + card % 4 : suit(card) == suit(cards.get(from)) ? 50 + card % 4 : 0;
            int bestWorth = best < 0 ? -1 : 0;
            if (best >= 0) {
                int c = cards.get(from + best);
                bestWorth = suit(c) == w.trump ? 100 + c % 4 : suit(c) == suit(cards.get(from)) ? 50 + c % 4 : 0;
            }
            if (worth > bestWorth) {
                best = j;
            }
        }
        return best;
    }

    private static boolean lets(World w, int card, int led, List<Integer> hand) {
        if (w.follow == 1 || suit(card) == led) {
            return true;
        }
        boolean hasLed = false;
        boolean hasTrump = false;
        for (int c : hand) {
            hasLed |= suit(c) == led;
            hasTrump |= suit(c) == w.trump;
        }
        if (hasLed) {
            return false;
        }
        return w.follow == 0 || !hasTrump || suit(card) == w.trump;
    }

    /** Plays a row forward. */
    private static Told tell(World w, int begins, List<Integer> cards) {
        Told t = new Told();
        t.begins = begins;
        t.cards = new ArrayList<>(cards);
        t.player = new int[cards.size()];
        t.leader = new int[w.tricks];
        t.winner = new int[w.tricks];
        t.breaches = new int[w.chairs];
        int lead = begins;
        for (int k = 0; k < w.tricks; k++) {
            t.leader[k] = lead;
            for (int j = 0; j < w.chairs; j++) {
                t.player[k * w.chairs + j] = (lead + j) % w.chairs;
            }
            t.winner[k] = (lead + winnerAt(w, cards, k * w.chairs)) % w.chairs;
            lead = w.leads == 0 ? t.winner[k] : (lead + 1) % w.chairs;
        }
        for (int i = 0; i < cards.size(); i++) {
            int led = suit(cards.get(i - i % w.chairs));
            if (i % w.chairs != 0 && !lets(w, cards.get(i), led, hand(t, t.player[i], i))) {
                t.breaches[t.player[i]]++;
                if (t.firstBreach < 0) {
                    t.firstBreach = i;
                }
            }
        }
        return t;
    }

    private static List<Integer> hand(Told t, int chair, int from) {
        List<Integer> hand = new ArrayList<>();
        for (int i = from; i < t.cards.size(); i++) {
            if (t.player[i] == chair) {
                hand.add(t.cards.get(i));
            }
        }
        return hand;
    }

    private static boolean letsClue(World w, Told t, int[] c) {
        int n = w.chairs;
        switch (c[0]) {
            case 0:
                return t.player[t.cards.indexOf(c[2])] == c[1];
            case 1:
                return t.leader[c[2]] == c[1];
            case 2:
                return t.cards.indexOf(c[1]) / n < t.cards.indexOf(c[2]) / n;
            default:
                for (int card : hand(t, c[1], c[3] * n)) {
                    if (suit(card) == c[2]) {
                        return false;
                    }
                }
                return true;
        }
    }

    private static boolean like(World w, Told t, int chair, List<Integer> heap) {
        List<Integer> mine = new ArrayList<>();
        for (int k = 0; k < w.tricks; k++) {
            if (t.winner[k] == chair) {
                mine.addAll(t.cards.subList(k * w.chairs, (k + 1) * w.chairs));
            }
        }
        if (mine.size() != heap.size()) {
            return false;
        }
        for (int i = 0; i < heap.size(); i++) {
            int at = i - i % w.chairs;
            int card = heap.get(i);
            if (card >= 0 && (w.kept == 0 ? mine.get(i) != card : !mine.subList(at, at + w.chairs).contains(card))) {
                return false;
            }
        }
        return true;
    }

    private static void orders(List<Integer> left, List<Integer> so, List<List<Integer>> into) {
        if (left.isEmpty()) {
            into.add(new ArrayList<>(so));
        }
        for (int i = 0; i < left.size(); i++) {
            int x = left.remove(i);
            so.add(x);
            orders(left, so, into);
            so.remove(so.size() - 1);
            left.add(i, x);
        }
    }

    private static List<List<List<Integer>>> fillings(World w, List<List<Integer>> heaps) {
        List<Integer> missing = new ArrayList<>(w.pack);
        for (List<Integer> h : heaps) {
            missing.removeAll(h);
        }
        List<List<Integer>> orders = new ArrayList<>();
        orders(missing, new ArrayList<>(), orders);
        List<List<List<Integer>>> all = new ArrayList<>();
        for (List<Integer> order : orders) {
            int at = 0;
            List<List<Integer>> filled = new ArrayList<>();
            for (List<Integer> h : heaps) {
                List<Integer> f = new ArrayList<>();
                for (int card : h) {
                    f.add(card < 0 ? order.get(at++) : card);
                }
                filled.add(f);
            }
            all.add(filled);
        }
        return all;
    }

    /** Every play that leaves the heaps, with its breaches and the clues that do not let it. */
    private static List<Told> everyPlay(World w, List<List<Integer>> heaps, List<List<Integer>> packOrders) {
        List<Told> found = new ArrayList<>();
        List<List<List<Integer>>> fillings = fillings(w, heaps);
        for (int b = 0; b < w.chairs; b++) {
            if (w.begins >= 0 && w.begins != b) {
                continue;
            }
            for (List<List<Integer>> filled : fillings) {
                for (List<Integer> order : packOrders != null ? packOrders : mixes(w, filled)) {
                    Told t = tell(w, b, order);
                    boolean alike = true;
                    for (int c = 0; c < w.chairs && alike; c++) {
                        alike = like(w, t, c, filled.get(c));
                    }
                    if (alike) {
                        t.filled = filled;
                        for (int i = 0; i < w.clues.size(); i++) {
                            t.broken |= letsClue(w, t, w.clues.get(i)) ? 0 : 1 << i;
                        }
                        found.add(t);
                    }
                }
            }
        }
        return found;
    }

    /** Every row that the tricks of the heaps make, those of each heap one behind the other. */
    private static List<List<Integer>> mixes(World w, List<List<Integer>> heaps) {
        List<List<Integer>> all = new ArrayList<>();
        mix(w, heaps, new int[w.chairs], new ArrayList<>(), all);
        return all;
    }

    private static void mix(World w, List<List<Integer>> heaps, int[] at, List<Integer> so, List<List<Integer>> all) {
        if (so.size() == w.pack.size()) {
            all.add(so);
        }
        for (int c = 0; c < w.chairs; c++) {
            if (at[c] < heaps.get(c).size()) {
                List<Integer> trick = heaps.get(c).subList(at[c], at[c] + w.chairs);
                List<List<Integer>> orders = new ArrayList<>();
                if (w.kept == 0) {
                    orders.add(trick);
                } else {
                    orders(new ArrayList<>(trick), new ArrayList<>(), orders);
                }
                at[c] += w.chairs;
                for (List<Integer> order : orders) {
                    List<Integer> longer = new ArrayList<>(so);
                    longer.addAll(order);
                    mix(w, heaps, at, longer, all);
                }
                at[c] -= w.chairs;
            }
        }
    }

    private static int sum(int[] a) {
        int s = 0;
        for (int x : a) {
            s += x;
        }
        return s;
    }

    private static boolean good(Told t) {
        return sum(t.breaches) == 0 && t.broken == 0;
    }

    private static boolean anyGood(List<Told> all) {
        for (Told t : all) {
            if (good(t)) {
                return true;
            }
        }
        return false;
    }

    private static World randomWorld(Random r, int most) {
        World w = new World();
        do {
            w.chairs = 2 + r.nextInt(3);
            w.tricks = 1 + r.nextInt(4);
        } while (w.chairs * w.tricks > most);
        while (w.pack.size() < w.chairs * w.tricks) {
            int card = r.nextInt(4) * 4 + r.nextInt(4);
            if (!w.pack.contains(card)) {
                w.pack.add(card);
            }
        }
        w.trump = r.nextInt(5) - 1;
        w.follow = r.nextInt(3);
        w.leads = r.nextInt(2);
        w.kept = r.nextInt(2);
        w.begins = r.nextBoolean() ? -1 : r.nextInt(w.chairs);
        return w;
    }

    private static void randomHeaps(World w, Random r, Told t) {
        w.heaps.clear();
        for (int c = 0; c < w.chairs; c++) {
            List<Integer> heap = new ArrayList<>();
            for (int k = 0; k < w.tricks; k++) {
                if (t.winner[k] == c) {
                    List<Integer> trick = new ArrayList<>(t.cards.subList(k * w.chairs, (k + 1) * w.chairs));
                    if (w.kept == 1) {
                        java.util.Collections.shuffle(trick, r);
                    }
                    if (r.nextInt(6) == 0) {
                        heap.addAll(0, trick);
                    } else {
                        heap.addAll(trick);
                    }
                }
            }
            w.heaps.add(heap);
        }
        int unseen = r.nextInt(4);
        for (int i = 0; i < unseen; i++) {
            List<Integer> heap = w.heaps.get(r.nextInt(w.chairs));
            if (!heap.isEmpty()) {
                heap.set(r.nextInt(heap.size()), -1);
            }
        }
    }

    private static Told randomPlay(World w, Random r, boolean lawful) {
        List<Integer> order = new ArrayList<>(w.pack);
        Told t = null;
        for (int i = 0; i < 60; i++) {
            java.util.Collections.shuffle(order, r);
            t = tell(w, w.begins >= 0 && r.nextInt(5) != 0 ? w.begins : r.nextInt(w.chairs), order);
            if (!lawful || sum(t.breaches) == 0) {
                return t;
            }
        }
        return t;
    }

    private static String name(int card) {
        return "shdc".charAt(card / 4) + "" + card % 4;
    }

    private static String gameText(World w) {
        StringBuilder b = new StringBuilder("n" + w.chairs + "t" + w.tricks + ":");
        for (int card : w.pack) {
            b.append(name(card));
        }
        b.append(w.trump < 0 ? "-" : "+" + "shdc".charAt(w.trump));
        b.append("f" + w.follow + "l" + w.leads + "k" + w.kept + "b" + (w.begins < 0 ? "?" : "" + w.begins));
        return b.toString();
    }

    private static String tableText(World w) {
        StringBuilder b = new StringBuilder();
        for (int c = 0; c < w.chairs; c++) {
            b.append(c > 0 ? ";" : "");
            for (int card : w.heaps.get(c)) {
                b.append(card < 0 ? "?" : name(card));
            }
        }
        return b.toString();
    }

    private static void compare(int seed, int most) {
        Random r = new Random(seed);
        World w = randomWorld(r, most);
        Told made = randomPlay(w, r, r.nextInt(4) != 0);
        randomHeaps(w, r, made);
        // every other world is told to an object that has seen another one
        LastTrick x = seed % 2 == 0 ? new LastTrick() : used;
        used = x;
        Texts.type(x, gameText(w));
        due(seed, "game " + gameText(w), x.game(), w.pack.size());
        int unseen = 0;
        for (List<Integer> h : w.heaps) {
            for (int card : h) {
                unseen += card < 0 ? 1 : 0;
            }
        }
        Texts.type(x, tableText(w));
        due(seed, "table " + tableText(w), x.table(), unseen);
        due(seed, "count 1", x.count(1), unseen);
        List<List<Integer>> packOrders = most > 8 ? null : new ArrayList<>();
        if (packOrders != null) {
            orders(new ArrayList<>(w.pack), new ArrayList<>(), packOrders);
        }
        int rounds = most == 6 ? 2 : 1;
        for (int round = 0; round < rounds; round++) {
            compareTable(seed, x, w, packOrders);
            addClues(seed, x, w, r, made);
        }
        compareTable(seed, x, w, packOrders);
        compareRow(seed, x, w, made);
        compareRow(seed, x, w, randomPlay(w, r, true));
    }

    private static void addClues(int seed, LastTrick x, World w, Random r, Told made) {
        int n = r.nextInt(4);
        for (int i = 0; i < n; i++) {
            int chair = r.nextInt(w.chairs);
            int card = w.pack.get(r.nextInt(w.pack.size()));
            int other = w.pack.get(r.nextInt(w.pack.size()));
            int k = r.nextInt(w.tricks);
            int[][] kinds = {{0, chair, card, 0}, {1, chair, k, 0}, {2, card, other, 0}, {3, chair, r.nextInt(4), k}};
            int[] c = kinds[r.nextInt(4)];
            if (c[0] == 2 && card == other || r.nextInt(3) != 0 && !letsClue(w, made, c)) {
                continue;
            }
            due(seed, "clue", x.clue(c[0], c[1], c[2], c[3]), w.clues.size() == 6 ? -3 : w.clues.size());
            if (w.clues.size() < 6) {
                w.clues.add(c);
            }
        }
        due(seed, "count 0", x.count(0), w.clues.size());
    }

    private static void compareTable(int seed, LastTrick x, World w, List<List<Integer>> packOrders) {
        List<Told> all = everyPlay(w, w.heaps, packOrders);
        List<Told> good = new ArrayList<>();
        for (Told t : all) {
            if (good(t)) {
                good.add(t);
            }
        }
        due(seed, "plays", x.plays(), good.size());
        for (int card = 0; card < 16; card++) {
            int may = 0;
            for (Told t : good) {
                may |= w.pack.contains(card) ? 1 << t.player[t.cards.indexOf(card)] : 0;
            }
            int sure = Integer.bitCount(may) == 1 ? Integer.numberOfTrailingZeros(may) : -4;
            due(seed, "may " + card, x.may(card), w.pack.contains(card) ? may : -1);
            due(seed, "sure " + card, x.sure(card), w.pack.contains(card) ? sure : -1);
        }
        for (int c = 0; c < w.chairs; c++) {
            List<Integer> heap = w.heaps.get(c);
            due(seed, "heap size", x.heap(c, -1), heap.size());
            for (int i = 0; i < heap.size(); i++) {
                int bits = 0;
                for (Told t : good) {
                    bits |= 1 << t.filled.get(c).get(i);
                }
                due(seed, "heap", x.heap(c, i), heap.get(i) < 0 ? -4 : heap.get(i));
                due(seed, "under " + c + " " + i, x.under(c, i), heap.get(i) < 0 ? bits : -2);
            }
        }
        for (int k = 0; k < w.tricks; k++) {
            int led = 0;
            int won = 0;
            for (Told t : good) {
                led |= 1 << t.leader[k];
                won |= 1 << t.winner[k];
            }
            due(seed, "trick led " + k, x.trick(k, 0), led);
            due(seed, "trick won " + k, x.trick(k, 1), won);
        }
        compareFirst(seed, x, w, good);
        compareLess(seed, x, w, all);
        // four cards in any order, three times: too many rows to look at for each other game
        if (w.pack.size() < 12 || w.chairs < 4 || w.kept == 0) {
            compareOthers(seed, x, w, packOrders);
        }
    }

    private static void compareFirst(int seed, LastTrick x, World w, List<Told> good) {
        List<Integer> least = null;
        for (Told t : good) {
            List<Integer> row = new ArrayList<>();
            row.add(t.begins);
            row.addAll(t.cards);
            least = least == null || before(row, least) ? row : least;
        }
        for (int i = -1; i < w.pack.size(); i++) {
            due(seed, "first " + i, x.first(i), least == null ? -4 : least.get(i + 1));
        }
    }

    private static boolean before(List<Integer> a, List<Integer> b) {
        for (int i = 0; i < a.size(); i++) {
            if (!a.get(i).equals(b.get(i))) {
                return a.get(i) < b.get(i);
            }
        }
        return false;
    }

    private static void compareLess(int seed, LastTrick x, World w, List<Told> all) {
        for (int c = -1; c < w.chairs; c++) {
            int fewest = 99;
            for (Told t : all) {
                if (t.broken == 0 && (c < 0 || t.breaches[c] == 0)) {
                    fewest = Math.min(fewest, sum(t.breaches));
                }
            }
            due(seed, "fewest " + c, x.fewest(c), fewest == 99 ? -4 : fewest);
        }
        int drops = -4;
        for (Told t : all) {
            int a = Integer.bitCount(t.broken);
            int b = Integer.bitCount(drops);
            if (sum(t.breaches) == 0 && (drops == -4 || a < b || a == b && t.broken < drops)) {
                drops = t.broken;
            }
        }
        due(seed, "drops", x.drops(), drops);
    }

    private static void compareOthers(int seed, LastTrick x, World w, List<List<Integer>> packOrders) {
        int turned = 0;
        for (int c = 0; c < w.chairs; c++) {
            List<List<Integer>> heaps = new ArrayList<>(w.heaps);
            List<Integer> back = new ArrayList<>();
            for (int i = heaps.get(c).size() - w.chairs; i >= 0; i -= w.chairs) {
                back.addAll(heaps.get(c).subList(i, i + w.chairs));
            }
            heaps.set(c, back);
            turned |= anyGood(everyPlay(w, heaps, packOrders)) ? 1 << c : 0;
        }
        due(seed, "turned", x.turned(), turned);
        int trump = w.trump;
        int follow = w.follow;
        int leads = w.leads;
        List<Integer> others = new ArrayList<>();
        for (int number = 0; number < 30; number++) {
            w.trump = number / 6 - 1;
            w.follow = number % 6 / 2;
            w.leads = number % 2;
            if (anyGood(everyPlay(w, w.heaps, packOrders))) {
                others.add(number);
            }
        }
        w.trump = trump;
        w.follow = follow;
        w.leads = leads;
        due(seed, "others", x.others(-1), others.size());
        for (int i = 0; i < 30; i++) {
            due(seed, "others " + i, x.others(i), i < others.size() ? others.get(i) : -4);
        }
    }

    private static void compareRow(int seed, LastTrick x, World w, Told t) {
        int n = w.pack.size();
        x.sheet(1, 1, n + 1);
        for (int i = 0; i < n; i++) {
            x.item(1, 1, i + 1, t.cards.get(i));
        }
        due(seed, "row", x.row(t.begins, 1, 1, 1), t.firstBreach < 0 ? -4 : t.firstBreach);
        if (t.firstBreach >= 0) {
            return;
        }
        int leaves = -4;
        for (int c = w.chairs - 1; c >= 0; c--) {
            leaves = like(w, t, c, w.heaps.get(c)) ? leaves : c;
        }
        leaves = leaves == -4 && w.begins >= 0 && w.begins != t.begins ? 4 : leaves;
        due(seed, "leaves", x.leaves(), leaves);
        int won = 0;
        for (int k = 0; k < w.tricks; k++) {
            won += t.winner[k] % 2 == 0 ? 1 : 0;
        }
        due(seed, "count 2", x.count(2), won);
        for (int i = 0; i <= n; i++) {
            due(seed, "best " + i, x.best(i), best(w, t, i));
            if (i < n) {
                due(seed, "who plays " + i, x.who(i, 0), t.player[i]);
                due(seed, "who wins " + i, x.who(i, 1), t.winner[i / w.chairs]);
                int ahead = best(w, t, i) + wonBy(w, t, i);
                int behind = best(w, t, i + 1) + wonBy(w, t, i + 1);
                due(seed, "falls " + i, x.falls(i), t.player[i] % 2 == 0 ? ahead - behind : behind - ahead);
            }
        }
        for (int c = 0; c < w.chairs; c++) {
            for (int k = 0; k < w.tricks; k++) {
                due(seed, "knows " + c + " " + k, x.knows(c, k), knows(w, t, c, k));
            }
        }
    }

    private static int wonBy(World w, Told t, int place) {
        int won = 0;
        for (int k = 0; k < place / w.chairs; k++) {
            won += t.winner[k] % 2 == 0 ? 1 : 0;
        }
        return won;
    }

    /** Plain minimax: the row so far, then any lawful card of who is next. */
    private static int best(World w, Told t, int place) {
        List<List<Integer>> hands = new ArrayList<>();
        for (int c = 0; c < w.chairs; c++) {
            hands.add(hand(t, c, place));
        }
        int trickStart = place - place % w.chairs;
        int leader = trickStart < t.cards.size() ? t.player[trickStart] : 0;
        return bestOn(w, hands, new ArrayList<>(t.cards.subList(trickStart, place)), leader);
    }

    private static int bestOn(World w, List<List<Integer>> hands, List<Integer> trick, int leader) {
        int chair = (leader + trick.size()) % w.chairs;
        if (trick.size() == w.chairs) {
            int winner = (leader + winnerAt(w, trick, 0)) % w.chairs;
            int next = w.leads == 0 ? winner : (leader + 1) % w.chairs;
            return (winner % 2 == 0 ? 1 : 0) + bestOn(w, hands, new ArrayList<>(), next);
        }
        List<Integer> hand = hands.get(chair);
        if (hand.isEmpty()) {
            return 0;
        }
        int best = chair % 2 == 0 ? -1 : 99;
        for (int i = 0; i < hand.size(); i++) {
            int card = hand.get(i);
            if (trick.isEmpty() || lets(w, card, suit(trick.get(0)), hand)) {
                hand.remove(i);
                trick.add(card);
                int v = bestOn(w, hands, new ArrayList<>(trick), leader);
                trick.remove(trick.size() - 1);
                hand.add(i, card);
                best = chair % 2 == 0 ? Math.max(best, v) : Math.min(best, v);
            }
        }
        return best;
    }

    private static int knows(World w, Told t, int chair, int k) {
        List<Integer> hidden = new ArrayList<>();
        for (int c = 0; c < w.chairs; c++) {
            if (c != chair) {
                hidden.addAll(hand(t, c, k * w.chairs));
            }
        }
        boolean[][] lacks = new boolean[w.chairs][4];
        for (int i = 0; i < k * w.chairs && w.follow != 1; i++) {
            int led = suit(t.cards.get(i - i % w.chairs));
            int s = suit(t.cards.get(i));
            if (s != led) {
                lacks[t.player[i]][led] = true;
                if (w.follow == 2 && w.trump >= 0 && s != w.trump) {
                    lacks[t.player[i]][w.trump] = true;
                }
            }
        }
        int ways = 0;
        int all = 1;
        for (int i = 0; i < hidden.size(); i++) {
            all *= w.chairs;
        }
        for (int deal = 0; deal < all; deal++) {
            int[] got = new int[w.chairs];
            boolean fits = true;
            int rest = deal;
            for (int card : hidden) {
                int c = rest % w.chairs;
                rest /= w.chairs;
                got[c]++;
                fits &= c != chair && !lacks[c][suit(card)];
            }
            for (int c = 0; c < w.chairs; c++) {
                fits &= c == chair || got[c] == w.tricks - k;
            }
            ways += fits ? 1 : 0;
        }
        return ways;
    }
}
