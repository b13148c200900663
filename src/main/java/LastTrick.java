/**
 * The last trick: heaps of cards as they were won, some face down, and all plays of a known game that leave just
 * these heaps. The promises that it keeps stand in DOC.md.
 */
public final class LastTrick {
    public static final int BAD = -1, NOT = -2, FULL = -3, NONE = -4, NULL = -11, CAST = -12, INDEX = -13, SIZE = -14;

    private static final int MOST_CHAIRS = 4, MOST_TRICKS = 4, ALL_CARDS = 16, MOST_PLACES = 12, SUITS = 4;
    private static final int MOST_UNSEEN = 3, MOST_CLUES = 6, MOST_BYTES = 80, FAULT = -20;
    private static final int MOST_SHEETS = 4, LANES = 3, MOST_ITEMS = 24, OTHER_GAMES = 30;
    private static final int UNSEEN = NONE;
    private static final int HELD = 0, LED = 1, EARLIER = 2, LACKED = 3;
    private static final int FREE = 1, FORCED = 2;
    private static final int ALL = 0, DROPPED = 1, BREACHED = 2;
    private static final int MOST_WAYS = 24, MOST_RANK = 64 * (MOST_CLUES + 1), MANY = 99;
    private static final int EVERY_SUIT = 0xFFFF, EVERY_CHAIR = 0x1111;
    /** FOLLOW, so that each lets all that those ahead of it let. */
    private static final int[] STRICTEST_FIRST = {2, 0, 1};
    /** Orders of three; the first two are those of two, the first one is that of one. */
    private static final int[] ORDERS = {0, 1, 2, 1, 0, 2, 0, 2, 1, 2, 0, 1, 1, 2, 0, 2, 1, 0};
    private static final int SURVEYED = 1, FEWEST_KNOWN = 2, DROPS_KNOWN = 4, TURNED_KNOWN = 8, OTHERS_KNOWN = 16;

    private final Tape tape = new Tape();
    private final State now = new State();
    private final State then = new State();
    private final State draft = new State();
    private final Search search = new Search();
    private final Judge judge = new Judge();
    private final Sheet[] sheets = new Sheet[MOST_SHEETS];
    private boolean imaged;
    /** Which findings of the search still hold for what is now. */
    private int fresh;
    private int turnedHeaps;
    private int otherGames;

    public LastTrick() {
        for (int i = 0; i < MOST_SHEETS; i++) {
            sheets[i] = new Sheet();
        }
    }

    // ---- 1 games, tables

    public int type(long w, int n) {
        if (n < 1 || n > 8 || !Tape.typable(w, n)) {
            return BAD;
        }
        if (tape.size + n > MOST_BYTES) {
            return FULL;
        }
        tape.append(w, n);
        return tape.size;
    }

    public int game() {
        boolean read = tape.readGame(draft.rules);
        int fault = tape.fault();
        tape.clear();
        if (!read) {
            return fault;
        }
        now.open(draft.rules);
        fresh = 0;
        return now.rules.cards();
    }

    public int table() {
        if (!now.rules.there) {
            tape.clear();
            return NOT;
        }
        boolean read = tape.readTable(draft.heaps, now.rules);
        int fault = tape.fault();
        tape.clear();
        if (!read) {
            return fault;
        }
        now.heaps.copy(draft.heaps);
        fresh = 0;
        return now.heaps.unseen;
    }

    public int told(int what) {
        if (what < 0 || what > 7) {
            return BAD;
        }
        if (!now.rules.there) {
            return NOT;
        }
        int law = now.rules.law(what);
        return law < 0 ? NONE : law;
    }

    public int set(int what, int v) {
        if (!Game.lawful(what, v)) {
            return BAD;
        }
        if (!now.rules.there) {
            return NOT;
        }
        if (what == 7 && v >= now.rules.chairs) {
            return BAD;
        }
        now.rules.change(what, v);
        now.told.there = false;
        fresh = 0;
        return 1;
    }

    public int heap(int chair, int i) {
        if (isNoChair(chair) || i < -1 || i >= MOST_PLACES) {
            return BAD;
        }
        if (!now.heaps.there) {
            return NOT;
        }
        if (chair >= now.rules.chairs || i >= now.heaps.size[chair]) {
            return BAD;
        }
        return i < 0 ? now.heaps.size[chair] : now.heaps.cardAt(chair, i);
    }

    public int wins(int cards, int leader) {
        if (cards < 0 || cards > 0xFFFF || isNoChair(leader)) {
            return BAD;
        }
        if (!now.rules.there) {
            return NOT;
        }
        if (leader >= now.rules.chairs) {
            return BAD;
        }
        int seen = 0;
        int chair = leader;
        int so = -1;
        for (int j = 0; j < now.rules.chairs; j++) {
            int card = cards >> 4 * j & 15;
            if (!now.rules.has(card) || (seen >> card & 1) != 0) {
                return BAD;
            }
            seen |= 1 << card;
            so = now.rules.join(so, chair, card);
            chair = now.rules.next(chair);
        }
        return Game.winnerOf(so);
    }

    // ---- 2 plays

    public int clue(int kind, int a, int b, int c) {
        if (!Clues.sound(kind, a, b, c)) {
            return BAD;
        }
        if (!now.rules.there) {
            return NOT;
        }
        if (!Clues.fits(now.rules, kind, a, b, c)) {
            return BAD;
        }
        if (now.clues.size >= MOST_CLUES) {
            return FULL;
        }
        fresh = 0;
        return now.clues.add(kind, a, b, c);
    }

    public int forget() {
        int gone = now.clues.size;
        now.clues.size = 0;
        fresh = 0;
        return gone;
    }

    public long plays() {
        if (!now.heaps.there) {
            return NOT;
        }
        survey();
        return search.plays;
    }

    public int may(int card) {
        int refusal = refusalOf(card);
        if (refusal != 0) {
            return refusal;
        }
        survey();
        return search.holdersOf(card);
    }

    public int sure(int card) {
        int refusal = refusalOf(card);
        if (refusal != 0) {
            return refusal;
        }
        survey();
        int chairs = search.holdersOf(card);
        for (int chair = 0; chair < MOST_CHAIRS; chair++) {
            if (chairs == 1 << chair) {
                return chair;
            }
        }
        return NONE;
    }

    public int under(int chair, int i) {
        if (isNoChair(chair) || i < 0 || i >= MOST_PLACES) {
            return BAD;
        }
        if (!now.heaps.there) {
            return NOT;
        }
        if (chair >= now.rules.chairs || i >= now.heaps.size[chair]) {
            return BAD;
        }
        if (now.heaps.cardAt(chair, i) != UNSEEN) {
            return NOT;
        }
        survey();
        return search.under[now.heaps.unseenAhead(chair, i)];
    }

    public int trick(int k, int what) {
        if (isNoTrick(k) || what < 0 || what > 1) {
            return BAD;
        }
        if (!now.heaps.there) {
            return NOT;
        }
        if (k >= now.rules.tricks) {
            return BAD;
        }
        survey();
        return (what == 0 ? search.leaders : search.winners) >> 4 * k & 15;
    }

    public int first(int i) {
        if (i < -1 || i >= MOST_PLACES) {
            return BAD;
        }
        if (!now.heaps.there) {
            return NOT;
        }
        int cards = now.rules.cards();
        if (i >= cards) {
            return BAD;
        }
        survey();
        if (search.plays == 0) {
            return NONE;
        }
        return (int) (search.least >> 4 * (cards - 1 - i)) & 15;
    }

    public int fewest(int chair) {
        if (chair < -1 || chair >= MOST_CHAIRS) {
            return BAD;
        }
        if (!now.heaps.there) {
            return NOT;
        }
        if (chair >= now.rules.chairs) {
            return BAD;
        }
        if ((fresh & FEWEST_KNOWN) == 0) {
            search.take(now);
            search.findFewest();
            fresh |= FEWEST_KNOWN;
        }
        int breaches = search.breaches[chair + 1];
        return breaches == MANY ? NONE : breaches;
    }

    public int drops() {
        if (!now.heaps.there) {
            return NOT;
        }
        if ((fresh & DROPS_KNOWN) == 0) {
            search.take(now);
            search.findDrops();
            fresh |= DROPS_KNOWN;
        }
        return search.dropped;
    }

    public int turned() {
        if (!now.heaps.there) {
            return NOT;
        }
        if ((fresh & TURNED_KNOWN) == 0) {
            turnedHeaps = findTurned();
            fresh |= TURNED_KNOWN;
        }
        return turnedHeaps;
    }

    public int others(int i) {
        if (i < -1 || i >= OTHER_GAMES) {
            return BAD;
        }
        if (!now.heaps.there) {
            return NOT;
        }
        if ((fresh & OTHERS_KNOWN) == 0) {
            otherGames = findOthers();
            fresh |= OTHERS_KNOWN;
        }
        if (i < 0) {
            return Integer.bitCount(otherGames);
        }
        int ahead = 0;
        for (int number = 0; number < OTHER_GAMES; number++) {
            if ((otherGames >> number & 1) != 0) {
                if (ahead == i) {
                    return number;
                }
                ahead++;
            }
        }
        return NONE;
    }

    // ---- 3 rows

    public int row(int begins, int sheet, int lane, int from) {
        if (isNoChair(begins) || isNoSheet(sheet) || isNoLane(lane)) {
            return BAD;
        }
        if (!now.rules.there) {
            return NOT;
        }
        if (begins >= now.rules.chairs) {
            return BAD;
        }
        int refusal = sheets[sheet].refusal(lane, from, now.rules.cards());
        if (refusal != 0) {
            return refusal;
        }
        Row told = draft.told;
        told.read(begins, sheets[sheet], from, now.rules.cards());
        int wrong = told.stranger(now.rules);
        if (wrong == NONE) {
            told.seat(now.rules);
            wrong = judge.breach(now.rules, told);
        }
        if (wrong == NONE) {
            now.told.copy(told);
        }
        return wrong;
    }

    public int leaves() {
        if (!now.told.there || !now.heaps.there) {
            return NOT;
        }
        for (int chair = 0; chair < now.rules.chairs; chair++) {
            if (!now.told.fills(now.rules, now.heaps, chair)) {
                return chair;
            }
        }
        int begins = now.rules.begins;
        return begins >= 0 && begins != now.told.begins ? MOST_CHAIRS : NONE;
    }

    public int who(int place, int what) {
        if (place < 0 || place >= MOST_PLACES || what < 0 || what > 1) {
            return BAD;
        }
        if (!now.told.there) {
            return NOT;
        }
        if (place >= now.rules.cards()) {
            return BAD;
        }
        return what == 0 ? now.told.players[place] : now.told.winners[place];
    }

    public int best(int place) {
        if (place < 0 || place > MOST_PLACES) {
            return BAD;
        }
        if (!now.told.there) {
            return NOT;
        }
        if (place > now.rules.cards()) {
            return BAD;
        }
        return judge.reachFrom(now.rules, now.told, place);
    }

    public int falls(int place) {
        if (place < 0 || place >= MOST_PLACES) {
            return BAD;
        }
        if (!now.told.there) {
            return NOT;
        }
        if (place >= now.rules.cards()) {
            return BAD;
        }
        int ahead = now.told.wonAhead(now.rules, place) + judge.reachFrom(now.rules, now.told, place);
        int behind = now.told.wonAhead(now.rules, place + 1) + judge.reachFrom(now.rules, now.told, place + 1);
        return now.told.players[place] % 2 == 0 ? ahead - behind : behind - ahead;
    }

    public int knows(int chair, int k) {
        if (isNoChair(chair) || isNoTrick(k)) {
            return BAD;
        }
        if (!now.told.there) {
            return NOT;
        }
        if (chair >= now.rules.chairs || k >= now.rules.tricks) {
            return BAD;
        }
        return judge.thinkable(now.rules, now.told, chair, k);
    }

    public int count(int what) {
        switch (what) {
            case 0:
                return now.clues.size;
            case 1:
                return now.heaps.there ? now.heaps.unseen : 0;
            case 2:
                return now.told.there ? now.told.wonAhead(now.rules, now.rules.cards()) : NONE;
            default:
                return BAD;
        }
    }

    public int image() {
        then.copy(now);
        imaged = true;
        return 1;
    }

    public int restore() {
        if (!imaged) {
            return NONE;
        }
        now.copy(then);
        fresh = 0;
        return 1;
    }

    // ---- 4 sheets

    public int sheet(int sheet, int lane, int n) {
        if (isNoSheet(sheet) || isNoLane(lane) || n > MOST_ITEMS) {
            return BAD;
        }
        if (n < 0) {
            return SIZE;
        }
        sheets[sheet].rule(lane, n);
        return n;
    }

    public int drop(int sheet) {
        if (isNoSheet(sheet)) {
            return BAD;
        }
        if (!sheets[sheet].there) {
            return NULL;
        }
        sheets[sheet].there = false;
        return sheets[sheet].size;
    }

    public int item(int sheet, int lane, int i, int v) {
        if (isNoSheet(sheet) || isNoLane(lane)) {
            return BAD;
        }
        int refusal = sheets[sheet].refusal(lane, i, 1);
        if (refusal != 0) {
            return refusal;
        }
        sheets[sheet].put(i, v);
        return 1;
    }

    private static boolean isNoChair(int chair) {
        return chair < 0 || chair >= MOST_CHAIRS;
    }

    private static boolean isNoTrick(int k) {
        return k < 0 || k >= MOST_TRICKS;
    }

    private static boolean isNoSheet(int sheet) {
        return sheet < 0 || sheet >= MOST_SHEETS;
    }

    private static boolean isNoLane(int lane) {
        return lane < 0 || lane >= LANES;
    }

    /** Why nothing can be said of a card; 0: it can. */
    private int refusalOf(int card) {
        if (card < 0 || card >= ALL_CARDS) {
            return BAD;
        }
        if (!now.heaps.there) {
            return NOT;
        }
        return now.rules.has(card) ? 0 : BAD;
    }

    private void survey() {
        if ((fresh & SURVEYED) == 0) {
            search.take(now);
            search.findAll();
            fresh |= SURVEYED;
        }
    }

    private int findTurned() {
        int bits = 0;
        for (int chair = 0; chair < now.rules.chairs; chair++) {
            search.take(now);
            search.heaps.turn(now.rules.chairs, chair);
            if (search.findsOne()) {
                bits |= 1 << chair;
            }
        }
        return bits;
    }

    private int findOthers() {
        int bits = 0;
        for (int trump = -1; trump < SUITS; trump++) {
            for (int leads = 0; leads < 2; leads++) {
                boolean found = false;
                for (int i = 0; i < STRICTEST_FIRST.length; i++) {
                    int follow = STRICTEST_FIRST[i];
                    if (!found) {
                        search.take(now);
                        search.rules.trump = trump;
                        search.rules.follow = follow;
                        search.rules.leads = leads;
                        found = search.findsOne();
                    }
                    if (found) {
                        bits |= 1 << 6 * (trump + 1) + 2 * follow + leads;
                    }
                }
            }
        }
        return bits;
    }

    /** All that an image keeps. */
    private static final class State {
        final Game rules = new Game();
        final Table heaps = new Table();
        final Clues clues = new Clues();
        final Row told = new Row();

        void open(Game game) {
            rules.copy(game);
            heaps.there = false;
            clues.size = 0;
            told.there = false;
        }

        void copy(State from) {
            rules.copy(from.rules);
            heaps.copy(from.heaps);
            clues.copy(from.clues);
            told.copy(from.told);
        }
    }

    /** The bytes that were typed, and a reader that goes over them once. */
    private static final class Tape {
        final byte[] bytes = new byte[MOST_BYTES];
        int size;
        int at;

        static boolean typable(long w, int n) {
            for (int i = 0; i < n; i++) {
                int b = (int) (w >> 8 * i) & 255;
                if (b < 32 || b > 126) {
                    return false;
                }
            }
            return true;
        }

        void append(long w, int n) {
            for (int i = n - 1; i >= 0 && size < MOST_BYTES; i--) {
                bytes[size] = (byte) (w >> 8 * i);
                size++;
            }
        }

        void clear() {
            size = 0;
            at = 0;
        }

        int fault() {
            return FAULT - at;
        }

        boolean readGame(Game game) {
            game.there = true;
            return readSize(game) && readPack(game) && readTrump(game) && readLaws(game) && readBegins(game) && ended();
        }

        boolean readTable(Table heaps, Game game) {
            heaps.clear();
            for (int chair = 0; chair < game.chairs; chair++) {
                if (chair > 0 && !take(';')) {
                    return false;
                }
                if (!readHeap(heaps, game, chair)) {
                    return false;
                }
            }
            return ended() && heaps.total == game.cards();
        }

        private boolean ended() {
            return peek() < 0;
        }

        /** The next byte that is no blank, -1 at the end; the reader then stands there, since no blank is at fault. */
        private int peek() {
            while (at < size && bytes[at] == ' ') {
                at++;
            }
            return at < size ? bytes[at] : -1;
        }

        private boolean take(int b) {
            if (peek() != b) {
                return false;
            }
            at++;
            return true;
        }

        private int digit(int low, int high) {
            int d = peek() - '0';
            if (d < low || d > high) {
                return -1;
            }
            at++;
            return d;
        }

        private int peekSuit() {
            switch (peek()) {
                case 's':
                    return 0;
                case 'h':
                    return 1;
                case 'd':
                    return 2;
                case 'c':
                    return 3;
                default:
                    return -1;
            }
        }

        /** A card that is not barred; else -1, and the reader stands at the byte that is at fault. */
        private int card(int barred) {
            int suit = peekSuit();
            if (suit < 0) {
                return -1;
            }
            at++;
            int rank = peek() - '0';
            if (rank < 0 || rank > 3 || (barred >> 4 * suit + rank & 1) != 0) {
                return -1;
            }
            at++;
            return 4 * suit + rank;
        }

        private boolean readSize(Game game) {
            if (!take('n')) {
                return false;
            }
            int chairs = digit(2, MOST_CHAIRS);
            if (chairs < 2 || !take('t')) {
                return false;
            }
            int tricks = digit(1, Math.min(MOST_TRICKS, MOST_PLACES / chairs));
            if (tricks < 1) {
                return false;
            }
            game.chairs = chairs;
            game.tricks = tricks;
            return take(':');
        }

        private boolean readPack(Game game) {
            game.pack = 0;
            for (int i = 0; i < game.cards(); i++) {
                int card = card(game.pack);
                if (card < 0) {
                    return false;
                }
                game.pack |= 1 << card;
            }
            return true;
        }

        private boolean readTrump(Game game) {
            game.trump = -1;
            if (take('-')) {
                return true;
            }
            if (!take('+')) {
                return false;
            }
            game.trump = peekSuit();
            if (game.trump < 0) {
                return false;
            }
            at++;
            return true;
        }

        private boolean readLaws(Game game) {
            game.follow = take('f') ? digit(0, 2) : -1;
            if (game.follow < 0) {
                return false;
            }
            game.leads = take('l') ? digit(0, 1) : -1;
            if (game.leads < 0) {
                return false;
            }
            game.kept = take('k') ? digit(0, 1) : -1;
            return game.kept >= 0;
        }

        private boolean readBegins(Game game) {
            game.begins = -1;
            if (!take('b')) {
                return false;
            }
            if (take('?')) {
                return true;
            }
            game.begins = digit(0, game.chairs - 1);
            return game.begins >= 0;
        }

        private boolean readHeap(Table heaps, Game game, int chair) {
            for (int i = 0; i <= MOST_PLACES && (peek() == '?' || peekSuit() >= 0); i++) {
                if (heaps.total >= game.cards()) {
                    return false;
                }
                int card = UNSEEN;
                if (peek() == '?') {
                    if (heaps.unseen >= MOST_UNSEEN) {
                        return false;
                    }
                    at++;
                } else {
                    card = card(~game.pack | heaps.seen);
                    if (card < 0) {
                        return false;
                    }
                }
                heaps.lay(chair, card, game.chairs);
            }
            return heaps.whole(chair, game.chairs);
        }
    }

    /** A game's laws. */
    private static final class Game {
        boolean there;
        int chairs = 2;
        int tricks = 1;
        int pack;
        int trump = -1;
        int follow;
        int leads;
        int kept;
        int begins = -1;

        static boolean lawful(int what, int v) {
            switch (what) {
                case 3:
                    return v >= -1 && v < SUITS;
                case 4:
                    return v >= 0 && v <= 2;
                case 5:
                case 6:
                    return v >= 0 && v <= 1;
                case 7:
                    return v >= -1 && v < MOST_CHAIRS;
                default:
                    return false;
            }
        }

        int law(int what) {
            switch (what) {
                case 0:
                    return chairs;
                case 1:
                    return tricks;
                case 2:
                    return pack;
                case 3:
                    return trump;
                case 4:
                    return follow;
                case 5:
                    return leads;
                case 6:
                    return kept;
                default:
                    return begins;
            }
        }

        void change(int what, int v) {
            switch (what) {
                case 3:
                    trump = v;
                    break;
                case 4:
                    follow = v;
                    break;
                case 5:
                    leads = v;
                    break;
                case 6:
                    kept = v;
                    break;
                default:
                    begins = v;
                    break;
            }
        }

        void copy(Game from) {
            there = from.there;
            chairs = from.chairs;
            tricks = from.tricks;
            pack = from.pack;
            trump = from.trump;
            follow = from.follow;
            leads = from.leads;
            kept = from.kept;
            begins = from.begins;
        }

        int cards() {
            return chairs * tricks;
        }

        boolean has(int card) {
            return card >= 0 && card < ALL_CARDS && (pack >> card & 1) != 0;
        }

        int next(int chair) {
            return chair + 1 < chairs ? chair + 1 : 0;
        }

        int previous(int chair) {
            return chair > 0 ? chair - 1 : chairs - 1;
        }

        /** A trick so far, -1 if nothing was led, with one more card: the suit led, the card that wins, whose it is. */
        int join(int so, int chair, int card) {
            if (so < 0) {
                return chair << 6 | card << 2 | card >> 2;
            }
            int top = so >> 2 & 15;
            boolean beats = card >> 2 == top >> 2 ? card > top : card >> 2 == trump;
            // not by suitOf: calls would go deeper than eight
            return beats ? chair << 6 | card << 2 | so & 3 : so;
        }

        static int suitOf(int so) {
            return so & 3;
        }

        static int winnerOf(int so) {
            return so >> 6 & 3;
        }

        /** Whether FOLLOW lets a card of a hand be played to a trick. */
        boolean lets(int card, int so, int hand) {
            int suit = card >> 2;
            int led = suitOf(so);
            if (so < 0 || follow == FREE || suit == led) {
                return true;
            }
            if ((hand >> 4 * led & 15) != 0) {
                return false;
            }
            return follow != FORCED || trump < 0 || suit == trump || (hand >> 4 * trump & 15) == 0;
        }
    }

    /** The heaps of the chairs. */
    private static final class Table {
        boolean there;
        final int[] size = new int[MOST_CHAIRS];
        final int[] won = new int[MOST_CHAIRS];
        final int[] cards = new int[MOST_CHAIRS * MOST_PLACES];
        int total;
        int seen;
        int unseen;

        void clear() {
            there = true;
            total = 0;
            seen = 0;
            unseen = 0;
            for (int chair = 0; chair < MOST_CHAIRS; chair++) {
                size[chair] = 0;
                won[chair] = 0;
            }
        }

        void lay(int chair, int card, int chairs) {
            if (isNoChair(chair) || size[chair] >= MOST_PLACES) {
                return;
            }
            cards[chair * MOST_PLACES + size[chair]] = card;
            size[chair]++;
            total++;
            if (card == UNSEEN) {
                unseen++;
            } else {
                seen |= 1 << card;
            }
            if (size[chair] == (won[chair] + 1) * chairs) {
                won[chair]++;
            }
        }

        boolean whole(int chair, int chairs) {
            return size[chair] == won[chair] * chairs;
        }

        int cardAt(int chair, int i) {
            return cards[chair * MOST_PLACES + i];
        }

        int unseenAhead(int chair, int i) {
            int ahead = 0;
            for (int c = 0; c <= chair; c++) {
                int end = c < chair ? size[c] : i;
                for (int j = 0; j < end; j++) {
                    if (cardAt(c, j) == UNSEEN) {
                        ahead++;
                    }
                }
            }
            return Math.min(ahead, MOST_UNSEEN - 1);
        }

        void turn(int chairs, int chair) {
            int low = chair * MOST_PLACES;
            int high = low + (won[chair] - 1) * chairs;
            for (int k = 0; k < MOST_TRICKS && low < high; k++) {
                for (int j = 0; j < chairs; j++) {
                    int card = cards[low + j];
                    cards[low + j] = cards[high + j];
                    cards[high + j] = card;
                }
                low += chairs;
                high -= chairs;
            }
        }

        void copy(Table from) {
            there = from.there;
            total = from.total;
            seen = from.seen;
            unseen = from.unseen;
            System.arraycopy(from.size, 0, size, 0, MOST_CHAIRS);
            System.arraycopy(from.won, 0, won, 0, MOST_CHAIRS);
            System.arraycopy(from.cards, 0, cards, 0, MOST_CHAIRS * MOST_PLACES);
        }
    }

    /** The clues, as they came. */
    private static final class Clues {
        int size;
        final int[] kinds = new int[MOST_CLUES];
        final int[] as = new int[MOST_CLUES];
        final int[] bs = new int[MOST_CLUES];
        final int[] cs = new int[MOST_CLUES];

        static boolean sound(int kind, int a, int b, int c) {
            if (kind < HELD || kind > LACKED || a < 0 || b < 0 || c < 0) {
                return false;
            }
            if (kind == EARLIER && a == b) {
                return false;
            }
            int mostA = kind == EARLIER ? ALL_CARDS : MOST_CHAIRS;
            int mostB = kind == HELD || kind == EARLIER ? ALL_CARDS : kind == LED ? MOST_TRICKS : SUITS;
            int mostC = kind == LACKED ? MOST_TRICKS : 1;
            return a < mostA && b < mostB && c < mostC;
        }

        static boolean fits(Game game, int kind, int a, int b, int c) {
            switch (kind) {
                case HELD:
                    return a < game.chairs && game.has(b);
                case LED:
                    return a < game.chairs && b < game.tricks;
                case EARLIER:
                    return game.has(a) && game.has(b);
                default:
                    return a < game.chairs && c < game.tricks;
            }
        }

        int add(int kind, int a, int b, int c) {
            int number = size;
            if (number < MOST_CLUES) {
                kinds[number] = kind;
                as[number] = a;
                bs[number] = b;
                cs[number] = c;
                size++;
            }
            return number;
        }

        /** The clues of HELD that do not let a chair play a card, as bits. */
        int againstHolding(int chair, int card) {
            int bits = 0;
            for (int i = 0; i < size; i++) {
                if (kinds[i] == HELD && bs[i] == card && as[i] != chair) {
                    bits |= 1 << i;
                }
            }
            return bits;
        }

        /** The other clues that do not let trick k be so: who led it, its cards, those of later ones, suits in hands. */
        int againstTrick(int k, int lead, int cards, int later, int suits) {
            int bits = 0;
            for (int i = 0; i < size; i++) {
                boolean wrong = false;
                switch (kinds[i]) {
                    case LED:
                        wrong = bs[i] == k && as[i] != lead;
                        break;
                    case EARLIER:
                        wrong = (cards >> as[i] & 1) != 0 && (later >> bs[i] & 1) == 0;
                        break;
                    case LACKED:
                        wrong = cs[i] == k && (suits >> 4 * as[i] + bs[i] & 1) != 0;
                        break;
                    default:
                        break;
                }
                if (wrong) {
                    bits |= 1 << i;
                }
            }
            return bits;
        }

        /** The suits in hands that clues ask for, as bits. */
        int suitsAsked() {
            int bits = 0;
            for (int i = 0; i < size; i++) {
                if (kinds[i] == LACKED) {
                    bits |= 1 << 4 * as[i] + bs[i];
                }
            }
            return bits;
        }

        void copy(Clues from) {
            size = from.size;
            System.arraycopy(from.kinds, 0, kinds, 0, MOST_CLUES);
            System.arraycopy(from.as, 0, as, 0, MOST_CLUES);
            System.arraycopy(from.bs, 0, bs, 0, MOST_CLUES);
            System.arraycopy(from.cs, 0, cs, 0, MOST_CLUES);
        }
    }

    /** A told play. */
    private static final class Row {
        boolean there;
        int begins;
        final int[] cards = new int[MOST_PLACES];
        final int[] players = new int[MOST_PLACES];
        /** At each place who wins the trick that it is of. */
        final int[] winners = new int[MOST_PLACES];
        /** At each place how many tricks side 0 can still win, -1 where nobody has asked. */
        final int[] reach = new int[MOST_PLACES + 1];

        void read(int who, Sheet sheet, int from, int size) {
            there = true;
            begins = who;
            for (int i = 0; i < size && i < MOST_PLACES; i++) {
                cards[i] = sheet.items[from + i];
            }
            for (int i = 0; i <= MOST_PLACES; i++) {
                reach[i] = -1;
            }
        }

        /** The first place whose card is not of the pack, or was there. */
        int stranger(Game game) {
            int seen = 0;
            for (int i = 0; i < game.cards(); i++) {
                if (!game.has(cards[i]) || (seen >> cards[i] & 1) != 0) {
                    return i;
                }
                seen |= 1 << cards[i];
            }
            return NONE;
        }

        void seat(Game game) {
            int leader = begins;
            int place = 0;
            for (int k = 0; k < game.tricks; k++) {
                int so = -1;
                int chair = leader;
                for (int j = 0; j < game.chairs; j++) {
                    players[place + j] = chair;
                    so = game.join(so, chair, cards[place + j]);
                    chair = game.next(chair);
                }
                int winner = Game.winnerOf(so);
                for (int j = 0; j < game.chairs; j++) {
                    winners[place + j] = winner;
                }
                leader = game.leads == 0 ? winner : game.next(leader);
                place += game.chairs;
            }
        }

        /** Whether the tricks that a chair wins are like its heap. */
        boolean fills(Game game, Table heaps, int chair) {
            int won = 0;
            for (int k = 0; k < game.tricks; k++) {
                int place = k * game.chairs;
                if (winners[place] == chair) {
                    if (won >= heaps.won[chair] || !like(game, heaps, chair, won * game.chairs, place)) {
                        return false;
                    }
                    won++;
                }
            }
            return won == heaps.won[chair];
        }

        private boolean like(Game game, Table heaps, int chair, int i, int place) {
            int played = 0;
            for (int j = 0; j < game.chairs; j++) {
                played |= 1 << cards[place + j];
            }
            for (int j = 0; j < game.chairs; j++) {
                int card = heaps.cardAt(chair, i + j);
                if (card != UNSEEN && (game.kept == 0 ? card != cards[place + j] : (played >> card & 1) == 0)) {
                    return false;
                }
            }
            return true;
        }

        /** How many tricks that are over ahead of a place side 0 won. */
        int wonAhead(Game game, int place) {
            int won = 0;
            for (int k = 0; k < game.tricks; k++) {
                if ((k + 1) * game.chairs <= place && winners[k * game.chairs] % 2 == 0) {
                    won++;
                }
            }
            return won;
        }

        void copy(Row from) {
            there = from.there;
            begins = from.begins;
            System.arraycopy(from.cards, 0, cards, 0, MOST_PLACES);
            System.arraycopy(from.players, 0, players, 0, MOST_PLACES);
            System.arraycopy(from.winners, 0, winners, 0, MOST_PLACES);
            System.arraycopy(from.reach, 0, reach, 0, MOST_PLACES + 1);
        }
    }

    /** A sheet: nothing, or a row of a lane. */
    private static final class Sheet {
        boolean there;
        int lane;
        int size;
        final int[] items = new int[MOST_ITEMS];

        void rule(int newLane, int n) {
            there = true;
            lane = newLane;
            size = n;
            for (int i = 0; i < MOST_ITEMS; i++) {
                items[i] = 0;
            }
        }

        /** Why n items from one on can't be taken as a row of a lane; 0: they can. */
        int refusal(int asLane, int from, int n) {
            if (!there) {
                return NULL;
            }
            if (lane != asLane) {
                return CAST;
            }
            return from < 0 || from > size - n ? INDEX : 0;
        }

        void put(int i, int v) {
            items[i] = lane == 0 ? (byte) v : lane == 1 ? (short) v : v;
        }
    }

    /** The ways in which the cards of one trick of a heap can have been played, those that differ in nothing else as one. */
    private static final class Ways {
        int owner;
        int cards;
        int size;
        final int[] leader = new int[MOST_WAYS];
        /** Suits that a chair, as its card shows, did not hold any more, 4 bits a chair. */
        final int[] barred = new int[MOST_WAYS];
        final int[] suits = new int[MOST_WAYS];
        /** Clues that do not let it be. */
        final int[] broken = new int[MOST_WAYS];
        /** How many there are, which chair plays which card in one of them, the least order of the cards. */
        final int[] many = new int[MOST_WAYS];
        final long[] holders = new long[MOST_WAYS];
        final int[] order = new int[MOST_WAYS];

        void begin(int chair) {
            owner = chair;
            cards = 0;
            size = 0;
        }

        /** Notes cards in the order in which they were played, the first one highest. */
        void note(Game game, Clues clues, int played, int suitsAsked) {
            int led = played >> 4 * (game.chairs - 1) & 15;
            int so = -1;
            for (int j = 0; j < game.chairs; j++) {
                so = game.join(so, j, played >> 4 * (game.chairs - 1 - j) & 15);
            }
            // it is known who won, so who led is known too
            int lead = owner - Game.winnerOf(so);
            lead = lead < 0 ? lead + game.chairs : lead;
            int chair = lead;
            int bars = 0;
            int holds = 0;
            int breaks = 0;
            long who = 0;
            for (int j = game.chairs - 1; j >= 0; j--) {
                int card = played >> 4 * j & 15;
                bars |= barredBy(game, card, led) << 4 * chair;
                holds |= 1 << 4 * chair + (card >> 2);
                breaks |= clues.againstHolding(chair, card);
                who |= 1L << 4 * card + chair;
                chair = game.next(chair);
            }
            int i = find(lead, bars, holds & suitsAsked, breaks);
            if (i < 0) {
                return;
            }
            many[i]++;
            holders[i] |= who;
            order[i] = Math.min(order[i], played);
        }

        private static int barredBy(Game game, int card, int led) {
            int suit = card >> 2;
            if (game.follow == FREE || suit == led >> 2) {
                return 0;
            }
            int bars = 1 << (led >> 2);
            return game.follow == FORCED && game.trump >= 0 && suit != game.trump ? bars | 1 << game.trump : bars;
        }

        /** The ways that are alike in what the search asks, a new one if there is none. */
        private int find(int lead, int bars, int holds, int breaks) {
            for (int i = 0; i < size; i++) {
                if (leader[i] == lead && barred[i] == bars && suits[i] == holds && broken[i] == breaks) {
                    return i;
                }
            }
            if (size >= MOST_WAYS) {
                return -1;
            }
            leader[size] = lead;
            barred[size] = bars;
            suits[size] = holds;
            broken[size] = breaks;
            many[size] = 0;
            holders[size] = 0;
            order[size] = 0xFFFF;
            size++;
            return size - 1;
        }
    }

    /**
     * Goes over all plays that leave the heaps, from the last trick back: so it is known what a chair still held when
     * its card is judged.
     */
    private static final class Search {
        final Game rules = new Game();
        final Table heaps = new Table();
        final Clues clues = new Clues();
        final Ways[] ways = new Ways[MOST_TRICKS];
        /** Of each heap its first trick among the ways, and how many of its tricks are not laid yet. */
        final int[] from = new int[MOST_CHAIRS];
        final int[] left = new int[MOST_CHAIRS];
        final int[] slots = new int[MOST_UNSEEN];
        final int[] lacking = new int[MOST_UNSEEN];
        final int[] path = new int[MOST_TRICKS];
        int later;
        int aim;
        int rank;
        // what was found
        long plays;
        long least;
        long held;
        int leaders;
        int winners;
        int dropped;
        final int[] under = new int[MOST_UNSEEN];
        final int[] breaches = new int[MOST_CHAIRS + 1];

        Search() {
            for (int i = 0; i < MOST_TRICKS; i++) {
                ways[i] = new Ways();
            }
        }

        void take(State state) {
            rules.copy(state.rules);
            heaps.copy(state.heaps);
            clues.copy(state.clues);
        }

        /** Counts all plays, and who held, led and won in them. */
        void findAll() {
            aim = ALL;
            plays = 0;
            least = -1;
            held = 0;
            leaders = 0;
            winners = 0;
            for (int i = 0; i < MOST_UNSEEN; i++) {
                under[i] = 0;
            }
            run();
        }

        void findFewest() {
            aim = BREACHED;
            for (int i = 0; i <= MOST_CHAIRS; i++) {
                breaches[i] = i <= rules.chairs ? MANY : 0;
            }
            run();
        }

        void findDrops() {
            aim = DROPPED;
            rank = MOST_RANK;
            run();
            dropped = rank == MOST_RANK ? NONE : rank & 63;
        }

        /** Whether there is a play: as if clues were dropped, but none may be. */
        boolean findsOne() {
            aim = DROPPED;
            rank = 1;
            run();
            return rank == 0;
        }

        int holdersOf(int card) {
            return (int) (held >> 4 * card) & 15;
        }

        /** Lays what lacks where nothing is seen, in every order, and plays back from there. */
        private void run() {
            listUnseen();
            int orders = heaps.unseen < 2 ? 1 : heaps.unseen == 2 ? 2 : 6;
            for (int i = 0; i < orders && !settled(); i++) {
                long before = plays;
                for (int slot = 0; slot < heaps.unseen && slot < MOST_UNSEEN; slot++) {
                    heaps.cards[slots[slot]] = lacking[ORDERS[MOST_UNSEEN * i + slot]];
                }
                gather();
                lay(rules.tricks - 1, lastLeader(), 0, 0, 0, 0);
                if (aim == ALL && plays != before) {
                    noteUnder();
                }
            }
        }

        private void listUnseen() {
            int missing = rules.pack & ~heaps.seen;
            int n = 0;
            for (int card = 0; card < ALL_CARDS && n < MOST_UNSEEN; card++) {
                if ((missing >> card & 1) != 0) {
                    lacking[n] = card;
                    n++;
                }
            }
            n = 0;
            for (int chair = 0; chair < rules.chairs; chair++) {
                for (int i = 0; i < heaps.size[chair] && n < MOST_UNSEEN; i++) {
                    if (heaps.cardAt(chair, i) == UNSEEN) {
                        slots[n] = chair * MOST_PLACES + i;
                        n++;
                    }
                }
            }
        }

        /** Who led the last trick, if the laws alone tell it, else -1. */
        private int lastLeader() {
            if (rules.leads == 0 || rules.begins < 0) {
                return -1;
            }
            int lead = rules.begins;
            for (int k = 1; k < rules.tricks; k++) {
                lead = rules.next(lead);
            }
            return lead;
        }

        private boolean settled() {
            return aim == DROPPED && rank == 0;
        }

        private void noteUnder() {
            for (int slot = 0; slot < heaps.unseen && slot < MOST_UNSEEN; slot++) {
                under[slot] |= 1 << heaps.cards[slots[slot]];
            }
        }

        private void gather() {
            int asked = rules.follow == FREE ? clues.suitsAsked() : EVERY_SUIT;
            int n = 0;
            later = 0;
            for (int chair = 0; chair < rules.chairs; chair++) {
                from[chair] = n;
                left[chair] = heaps.won[chair];
                for (int i = 0; i < heaps.won[chair] && n < MOST_TRICKS; i++) {
                    Ways of = ways[n];
                    of.begin(chair);
                    int first = chair * MOST_PLACES + i * rules.chairs;
                    for (int j = 0; j < rules.chairs; j++) {
                        of.cards |= 1 << heaps.cards[first + j];
                    }
                    arrange(of, first, 0, 0, 0, asked);
                    n++;
                }
            }
        }

        /** Notes the orders in which a trick's cards may have been played. */
        private void arrange(Ways of, int first, int depth, int used, int played, int asked) {
            if (depth >= rules.chairs) {
                of.note(rules, clues, played, asked);
                return;
            }
            for (int j = 0; j < rules.chairs; j++) {
                if ((used >> j & 1) == 0 && (rules.kept == 1 || j == depth)) {
                    arrange(of, first, depth + 1, used | 1 << j, played << 4 | heaps.cards[first + j], asked);
                }
            }
        }

        /**
         * Lays trick k and those ahead of it. need: who must have won it (LEADS 0) or led it (1), -1 if anybody may;
         * suits: those that chairs held behind it; by: who made breaches; broken: clues that are broken.
         */
        private void lay(int k, int need, int suits, int breached, int by, int broken) {
            if (k < 0) {
                return;
            }
            for (int chair = 0; chair < rules.chairs; chair++) {
                if (left[chair] > 0 && (rules.leads == 1 || need < 0 || chair == need)) {
                    left[chair]--;
                    layTrick(k, from[chair] + left[chair], need, suits, breached, by, broken);
                    left[chair]++;
                }
            }
        }

        private void layTrick(int k, int number, int need, int suits, int breached, int by, int broken) {
            if (number >= MOST_TRICKS) {
                return;
            }
            Ways of = ways[number];
            for (int i = 0; i < of.size; i++) {
                int lead = of.leader[i];
                int wrong = chairsIn(suits & of.barred[i]);
                if (!mayLead(k, lead, need) || wrong != 0 && aim != BREACHED) {
                    continue;
                }
                int sum = breached + Integer.bitCount(wrong);
                int holds = suits | of.suits[i];
                int breaks = broken | of.broken[i] | clues.againstTrick(k, lead, of.cards, later, holds);
                int price = aim == DROPPED ? rankOf(breaks) : sum;
                if (!promises(price, by | wrong, breaks)) {
                    continue;
                }
                path[k] = number * MOST_WAYS + i;
                if (k == 0 && aim == ALL) {
                    notePlay(lead);
                } else if (k == 0) {
                    noteLess(price, by | wrong);
                } else {
                    later |= of.cards;
                    lay(k - 1, rules.leads == 0 ? lead : rules.previous(lead), holds, sum, by | wrong, breaks);
                    later &= ~of.cards;
                }
            }
        }

        /** The chairs of which there is a suit, as the lowest of each chair's 4 bits. */
        private static int chairsIn(int suits) {
            int pairs = suits | suits >> 1;
            return (pairs | pairs >> 2) & EVERY_CHAIR;
        }

        private boolean mayLead(int k, int lead, int need) {
            if (k == 0 && rules.begins >= 0 && lead != rules.begins) {
                return false;
            }
            if (rules.leads == 1) {
                return need < 0 || lead == need;
            }
            return k == 0 || left[lead] > 0;
        }

        /** Whether what is laid so far, at a price, could still become something that is looked for. */
        private boolean promises(int price, int by, int broken) {
            if (aim == DROPPED) {
                return price < rank;
            }
            if (broken != 0) {
                return false;
            }
            if (aim == ALL || price < breaches[0]) {
                return true;
            }
            for (int chair = 0; chair < rules.chairs; chair++) {
                if ((by >> 4 * chair & 1) == 0 && price < breaches[chair + 1]) {
                    return true;
                }
            }
            return false;
        }

        private static int rankOf(int broken) {
            return 64 * Integer.bitCount(broken) + broken;
        }

        private void noteLess(int price, int by) {
            if (aim == DROPPED) {
                rank = price;
                return;
            }
            breaches[0] = Math.min(breaches[0], price);
            for (int chair = 0; chair < rules.chairs; chair++) {
                if ((by >> 4 * chair & 1) == 0) {
                    breaches[chair + 1] = Math.min(breaches[chair + 1], price);
                }
            }
        }

        private void notePlay(int begins) {
            long many = 1;
            long row = begins;
            for (int k = 0; k < rules.tricks; k++) {
                Ways of = ways[path[k] / MOST_WAYS];
                int i = path[k] % MOST_WAYS;
                many *= of.many[i];
                row = row << 4 * rules.chairs | of.order[i];
                held |= of.holders[i];
                leaders |= 1 << 4 * k + of.leader[i];
                winners |= 1 << 4 * k + of.owner;
            }
            least = plays == 0 ? row : Math.min(least, row);
            plays += many;
        }
    }

    /** Judges a told play card by card. */
    private static final class Judge {
        final int[] hands = new int[MOST_CHAIRS];
        final int[] room = new int[MOST_CHAIRS];
        final int[] lacks = new int[MOST_CHAIRS];

        /** The first place whose card FOLLOW does not let. */
        int breach(Game game, Row row) {
            deal(game, row, 0);
            int so = -1;
            for (int i = 0; i < game.cards(); i++) {
                int chair = row.players[i];
                if (!game.lets(row.cards[i], so, hands[chair])) {
                    return i;
                }
                hands[chair] &= ~(1 << row.cards[i]);
                so = soFar(game, row, i + 1);
            }
            return NONE;
        }

        /** Gives each chair what it plays from a place on. */
        private void deal(Game game, Row row, int place) {
            for (int chair = 0; chair < MOST_CHAIRS; chair++) {
                hands[chair] = 0;
            }
            for (int i = place; i < game.cards(); i++) {
                hands[row.players[i]] |= 1 << row.cards[i];
            }
        }

        /** The trick that is not over at a place. */
        private static int soFar(Game game, Row row, int place) {
            int so = -1;
            for (int i = place - place % game.chairs; i < place; i++) {
                so = game.join(so, row.players[i], row.cards[i]);
            }
            return so;
        }

        int reachFrom(Game game, Row row, int place) {
            if (place >= game.cards()) {
                return 0;
            }
            if (row.reach[place] < 0) {
                deal(game, row, place);
                row.reach[place] = reach(game, place, row.players[place], soFar(game, row, place), -1, MANY);
            }
            return row.reach[place];
        }

        /**
         * How many tricks side 0 wins from a place on, if both sides play their best; low and high are what side 0
         * and side 1 are sure of elsewhere, and between them the answer is exact.
         */
        private int reach(Game game, int place, int chair, int so, int low, int high) {
            if (place >= game.cards()) {
                return 0;
            }
            boolean most = chair % 2 == 0;
            int best = most ? -1 : MANY;
            int hand = hands[chair];
            for (int card = 0; card < ALL_CARDS && low < high; card++) {
                if ((hand >> card & 1) != 0 && game.lets(card, so, hand)) {
                    hands[chair] = hand & ~(1 << card);
                    int found = reachBehind(game, place, chair, game.join(so, chair, card), low, high);
                    best = most ? Math.max(best, found) : Math.min(best, found);
                    low = most ? Math.max(low, best) : low;
                    high = most ? high : Math.min(high, best);
                }
            }
            hands[chair] = hand;
            return best;
        }

        private int reachBehind(Game game, int place, int chair, int so, int low, int high) {
            int next = game.next(chair);
            if ((place + 1) % game.chairs != 0) {
                return reach(game, place + 1, next, so, low, high);
            }
            int winner = Game.winnerOf(so);
            int won = winner % 2 == 0 ? 1 : 0;
            int leader = game.leads == 0 ? winner : game.next(next);
            return won + reach(game, place + 1, leader, -1, low - won, high - won);
        }

        /** How many ways there are to deal what a chair does not see when trick k begins. */
        int thinkable(Game game, Row row, int chair, int k) {
            deal(game, row, k * game.chairs);
            int hidden = 0;
            for (int other = 0; other < game.chairs; other++) {
                hidden |= other == chair ? 0 : hands[other];
                room[other] = other == chair ? 0 : game.tricks - k;
                lacks[other] = 0;
            }
            if (game.follow != FREE) {
                noteLacks(game, row, k);
            }
            return deals(game, hidden, 0);
        }

        private void noteLacks(Game game, Row row, int k) {
            for (int i = 0; i < k * game.chairs; i++) {
                int led = row.cards[i - i % game.chairs] >> 2;
                int suit = row.cards[i] >> 2;
                if (suit != led) {
                    lacks[row.players[i]] |= 1 << led;
                    if (game.follow == FORCED && game.trump >= 0 && suit != game.trump) {
                        lacks[row.players[i]] |= 1 << game.trump;
                    }
                }
            }
        }

        private int deals(Game game, int hidden, int card) {
            if (card >= ALL_CARDS) {
                return 1;
            }
            if ((hidden >> card & 1) == 0) {
                return deals(game, hidden, card + 1);
            }
            int sum = 0;
            for (int chair = 0; chair < game.chairs; chair++) {
                if (room[chair] > 0 && (lacks[chair] >> (card >> 2) & 1) == 0) {
                    room[chair]--;
                    sum += deals(game, hidden, card + 1);
                    room[chair]++;
                }
            }
            return sum;
        }
    }
}
