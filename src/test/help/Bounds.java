import java.util.ArrayList;
import java.util.HashMap;
import java.util.List;
import java.util.Map;

/** What the tests of boundary cases share: each stands under the sentence of the document that asks for it. */
abstract class Bounds {
    static final int BAD = -1, NOT = -2, FULL = -3, NONE = -4, NULL = -11, CAST = -12, INDEX = -13, SIZE = -14;
    static final int LEAST = Integer.MIN_VALUE, MOST = Integer.MAX_VALUE;
    static final Standing[] WITHOUT_TABLE = {Standing.NOTHING, Standing.SHEETS, Standing.GAME, Standing.ROW};
    static final Standing[] WITHOUT_ROW = {Standing.NOTHING, Standing.SHEETS, Standing.GAME, Standing.TABLE};
    private static final Map<String, String> LOOKS = new HashMap<>();
    private static String sentence = "";
    private static int asked = 0;
    private static int wrong = 0;

    interface Call {
        long on(LastTrick x);
    }

    interface NumberedCall {
        long on(LastTrick x, int number);
    }

    /** The sentence that the answers below hold to, of a promise, or (0) of the terms; SentencesTest looks it up. */
    static void sentence(int promise, String words) {
        sentence = (promise == 0 ? "terms" : "promise " + promise) + ", \"" + words + "\"";
    }

    static void due(String call, long got, long want) {
        asked++;
        if (got != want) {
            wrong++;
            System.out.println(sentence + ": " + call + " answered " + got + ", due is " + want);
        }
    }

    static void end() {
        System.out.println(asked + " answers, " + wrong + " wrong");
        if (wrong != 0) {
            System.exit(1);
        }
    }

    /** A call that is refused, and changes nothing. */
    static void refused(Standing standing, String name, Call call, long want) {
        for (Look look : Look.values()) {
            String untouched = LOOKS.computeIfAbsent(standing + " " + look, key -> look.at(standing.make()));
            LastTrick x = standing.make();
            due(standing + ": " + name, call.on(x), want);
            due(standing + ": " + name + " leaves all: " + look, look.at(x).equals(untouched) ? 1 : 0, 1);
        }
    }

    /** As refused, behind another call. */
    static void refusedBehind(Standing standing, Call ahead, String name, Call call, long want) {
        for (Look look : Look.values()) {
            LastTrick x = standing.make();
            LastTrick twin = standing.make();
            ahead.on(x);
            ahead.on(twin);
            due(standing + ": " + name, call.on(x), want);
            due(standing + ": " + name + " leaves all: " + look, look.at(x).equals(look.at(twin)) ? 1 : 0, 1);
        }
    }

    /** Numbers that are too small and too large by one, and by far, are refused as BAD; nothing is changed by them. */
    static void beyond(Standing standing, String name, int low, int high, NumberedCall call) {
        for (int number : new int[] {low - 1, LEAST, high + 1, MOST}) {
            refused(standing, name + " with " + number, x -> call.on(x, number), BAD);
        }
    }

    /** As beyond, ahead of NOT, where the edges themselves answer NOT; and once more where all is there. */
    static void beyondAheadOfNot(String name, int low, int high, NumberedCall call) {
        beyond(Standing.NOTHING, name, low, high, call);
        beyond(Standing.ALL, name, low, high, call);
        refused(Standing.NOTHING, name + " with " + low, x -> call.on(x, low), NOT);
        refused(Standing.NOTHING, name + " with " + high, x -> call.on(x, high), NOT);
    }

    /** Each order of the suits, for Texts.renamed: what holds of one suit holds of all. */
    static List<String> namesOfSuits() {
        List<String> all = new ArrayList<>();
        for (char a : "shdc".toCharArray()) {
            for (char b : "shdc".toCharArray()) {
                for (char c : "shdc".toCharArray()) {
                    for (char d : "shdc".toCharArray()) {
                        if (a != b && a != c && a != d && b != c && b != d && c != d) {
                            all.add("" + a + b + c + d);
                        }
                    }
                }
            }
        }
        return all;
    }

    static LastTrick with(String game) {
        LastTrick x = new LastTrick();
        int cards = Texts.game(x, game);
        if (cards < 0) {
            due("game " + game, cards, 0);
        }
        return x;
    }

    static LastTrick with(String game, String table) {
        LastTrick x = with(game);
        int unseen = Texts.table(x, table);
        if (unseen < 0) {
            due("table " + table, unseen, 0);
        }
        return x;
    }

    /** A table by which there is no play, since chair 1 begins and chair 0 led. */
    static LastTrick withoutPlay() {
        return with("n2t1:s0h1-f0l0k0b1", "h1s0;");
    }

    /** An object with a lawful row. */
    static LastTrick told(String game, int begins, String cards) {
        LastTrick x = with(game);
        due("row " + cards, Texts.row(x, begins, cards), NONE);
        return x;
    }
}
