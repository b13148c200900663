import java.util.ArrayList;
import java.util.List;

/** What the terms say of refusals, of all calls: their numbers, which comes first, that they change nothing. */
public final class BoundsOfRefusalsTest extends Bounds {
    private static final int[] NUMBERS = {LEAST, -1, 0, 1, 2, 3, 4, 11, 15, 16, MOST};
    private static final int[] FEW = {-1, 0, 3, 4};

    private record Named(String name, Call call) {
    }

    public static void main(String[] args) {
        numbers();
        chairs();
        cards();
        tricks();
        places();
        digits();
        refusalsChangeNothing();
        end();
    }

    private static void numbers() {
        sentence(0, "BAD -1 (a number is not as told, or names nothing), NOT -2 (as told), FULL -3, NONE -4 (as told), CAST -12 (of SHEETS another LANE)");
        due("BAD", LastTrick.BAD, -1);
        due("NOT", LastTrick.NOT, -2);
        due("FULL", LastTrick.FULL, -3);
        due("NONE", LastTrick.NONE, -4);
        due("CAST", LastTrick.CAST, -12);
        LastTrick x = Standing.FULL.make();
        due("a number that is not as told", x.told(8), -1);
        due("a number that names nothing", x.may(3), -1);
        due("as told", x.under(0, 1), -2);
        due("full", x.clue(0, 0, 0, 0), -3);
        due("as told", x.told(3), -4);
        due("another lane", x.item(0, 1, 0, 0), -12);
        sentence(0, "what the machine finds: NULL -11, INDEX -13, SIZE -14");
        due("NULL", LastTrick.NULL, -11);
        due("INDEX", LastTrick.INDEX, -13);
        due("SIZE", LastTrick.SIZE, -14);
        due("nothing there", x.drop(3), -11);
        due("no such item", x.item(0, 0, 8, 0), -13);
        due("no such size", x.sheet(0, 0, -1), -14);
    }

    private static void chairs() {
        sentence(0, "CHAIRS beyond 3");
        NumberedCall[] calls = {(x, c) -> x.heap(c, 0), (x, c) -> x.wins(0x3210, c), (x, c) -> x.clue(0, c, 0, 0),
            (x, c) -> x.clue(1, c, 0, 0), (x, c) -> x.clue(3, c, 0, 0), (x, c) -> x.under(c, 0), (x, c) -> x.fewest(c),
            (x, c) -> x.row(c, 0, 0, 0), (x, c) -> x.knows(c, 0), (x, c) -> x.set(7, c)};
        aheadOfNot("chair", calls, 3);
    }

    private static void cards() {
        sentence(0, "CARDS beyond 15");
        NumberedCall[] calls = {LastTrick::may, LastTrick::sure, (x, c) -> x.clue(0, 0, c, 0), (x, c) -> x.clue(2, c, 1, 0),
            (x, c) -> x.clue(2, 1, c, 0)};
        aheadOfNot("card", calls, 15);
    }

    private static void tricks() {
        sentence(0, "TRICKS beyond 3");
        NumberedCall[] calls = {(x, k) -> x.trick(k, 0), (x, k) -> x.trick(k, 1), (x, k) -> x.clue(1, 0, k, 0),
            (x, k) -> x.clue(3, 0, 0, k), (x, k) -> x.knows(0, k)};
        aheadOfNot("trick", calls, 3);
    }

    private static void places() {
        sentence(0, "places beyond 11");
        NumberedCall[] calls = {(x, i) -> x.heap(0, i), (x, i) -> x.under(0, i), LastTrick::first, (x, i) -> x.who(i, 0),
            (x, i) -> x.who(i, 1), LastTrick::falls};
        aheadOfNot("place", calls, 11);
        // the end of twelve cards is a place that BEST is asked from
        aheadOfNot("place", new NumberedCall[] {LastTrick::best}, 12);
    }

    private static void digits() {
        sentence(0, "digits as told are BAD ahead of NOT");
        aheadOfNot("what", new NumberedCall[] {LastTrick::told}, 7);
        aheadOfNot("what", new NumberedCall[] {(x, what) -> x.set(what, 0)}, 7);
        aheadOfNot("trump", new NumberedCall[] {(x, v) -> x.set(3, v)}, 3);
        aheadOfNot("follow", new NumberedCall[] {(x, v) -> x.set(4, v)}, 2);
        aheadOfNot("leads, kept", new NumberedCall[] {(x, v) -> x.set(5, v), (x, v) -> x.set(6, v)}, 1);
        aheadOfNot("cards", new NumberedCall[] {(x, cards) -> x.wins(cards, 0)}, 0xFFFF);
        aheadOfNot("kind", new NumberedCall[] {(x, kind) -> x.clue(kind, 0, 1, 0)}, 3);
        aheadOfNot("suit", new NumberedCall[] {(x, suit) -> x.clue(3, 0, suit, 0)}, 3);
        aheadOfNot("what", new NumberedCall[] {(x, what) -> x.trick(0, what), (x, what) -> x.who(0, what)}, 1);
        aheadOfNot("other game", new NumberedCall[] {LastTrick::others}, 29);
        aheadOfNot("lane", new NumberedCall[] {(x, lane) -> x.row(0, 0, lane, 0)}, 2);
        aheadOfNot("sheet", new NumberedCall[] {(x, sheet) -> x.row(0, sheet, 0, 0)}, 3);
    }

    /** On a new object: the last number that is told is NOT, what lies beyond it BAD. */
    private static void aheadOfNot(String name, NumberedCall[] calls, int last) {
        for (int i = 0; i < calls.length; i++) {
            due(name + " " + last + " of call " + i, calls[i].on(new LastTrick(), last), NOT);
            due(name + " " + (last + 1) + " of call " + i, calls[i].on(new LastTrick(), last + 1), BAD);
            due(name + " " + MOST + " of call " + i, calls[i].on(new LastTrick(), MOST), BAD);
        }
    }

    private static void refusalsChangeNothing() {
        sentence(0, "What is refused changes nothing, but as told.");
        List<Named> calls = new ArrayList<>();
        for (int a : NUMBERS) {
            addCallsOfOne(calls, a);
            for (int b : NUMBERS) {
                addCallsOfTwo(calls, a, b);
            }
        }
        for (int a : FEW) {
            for (int b : FEW) {
                for (int c : FEW) {
                    addCallsOfMore(calls, a, b, c);
                }
            }
        }
        for (Standing standing : Standing.values()) {
            for (Named named : calls) {
                long answer = named.call.on(standing.make());
                if (answer < 0) {
                    refused(standing, named.name, named.call, answer);
                }
            }
        }
    }

    private static void addCallsOfOne(List<Named> calls, int a) {
        calls.add(new Named("plays", LastTrick::plays));
        calls.add(new Named("drops", LastTrick::drops));
        calls.add(new Named("turned", LastTrick::turned));
        calls.add(new Named("leaves", LastTrick::leaves));
        calls.add(new Named("told " + a, x -> x.told(a)));
        calls.add(new Named("may " + a, x -> x.may(a)));
        calls.add(new Named("sure " + a, x -> x.sure(a)));
        calls.add(new Named("first " + a, x -> x.first(a)));
        calls.add(new Named("fewest " + a, x -> x.fewest(a)));
        calls.add(new Named("others " + a, x -> x.others(a)));
        calls.add(new Named("best " + a, x -> x.best(a)));
        calls.add(new Named("falls " + a, x -> x.falls(a)));
        calls.add(new Named("count " + a, x -> x.count(a)));
        calls.add(new Named("drop " + a, x -> x.drop(a)));
    }

    private static void addCallsOfTwo(List<Named> calls, int a, int b) {
        String numbers = " " + a + " " + b;
        calls.add(new Named("type" + numbers, x -> x.type(a, b)));
        calls.add(new Named("set" + numbers, x -> x.set(a, b)));
        calls.add(new Named("heap" + numbers, x -> x.heap(a, b)));
        calls.add(new Named("wins" + numbers, x -> x.wins(a, b)));
        calls.add(new Named("under" + numbers, x -> x.under(a, b)));
        calls.add(new Named("trick" + numbers, x -> x.trick(a, b)));
        calls.add(new Named("who" + numbers, x -> x.who(a, b)));
        calls.add(new Named("knows" + numbers, x -> x.knows(a, b)));
    }

    private static void addCallsOfMore(List<Named> calls, int a, int b, int c) {
        String numbers = " " + a + " " + b + " " + c;
        for (int kind = 0; kind < 4; kind++) {
            int of = kind;
            calls.add(new Named("clue " + kind + numbers, x -> x.clue(of, a, b, c)));
        }
        for (int lane = -1; lane < 4; lane++) {
            int as = lane;
            calls.add(new Named("row" + numbers + " of lane " + lane, x -> x.row(a, b, as, c)));
            calls.add(new Named("item" + numbers + " of lane " + lane, x -> x.item(a, as, b, 77)));
        }
        calls.add(new Named("sheet" + numbers, x -> x.sheet(a, b, c)));
    }
}
