/** How an object can stand before a call, from nothing at all to all places full. */
enum Standing {
    NOTHING, SHEETS, GAME, TABLE, ROW, ALL, TYPED, FULL;

    /** Three chairs, two tricks, no cards of c: so there are chairs, tricks and cards that the game has not. */
    static final String GAME_TEXT = "n3t2:s0s1s2h0h1d3-f0l0k1b?";
    static final String TABLE_TEXT = "?s2s1;h0d3?;";
    static final String ROW_CARDS = "s0s1s2h0h1d3";

    /** Always the same calls, some sixty at most: two of a standing are twins. */
    LastTrick make() {
        LastTrick x = new LastTrick();
        if (this == NOTHING) {
            return x;
        }
        if (this == SHEETS) {
            fillSheets(x);
            Texts.type(x, GAME_TEXT);
            return x;
        }
        if (this != GAME) {
            keepAnother(x);
        }
        Texts.read(x, GAME_TEXT, this == GAME || this == ROW ? null : TABLE_TEXT);
        if (this != GAME && this != TABLE) {
            Texts.row(x, 1, ROW_CARDS);
            x.drop(3);
        }
        fillSheets(x);
        if (this == ALL || this == TYPED || this == FULL) {
            x.clue(2, 0, 4, 0);
            x.clue(0, 2, 11, 0);
        }
        if (this == TYPED) {
            Texts.type(x, "s0s1s2h0h1d3;;");
        }
        if (this == FULL) {
            fill(x);
        }
        return x;
    }

    private static void keepAnother(LastTrick x) {
        Texts.read(x, "n2t2:s0s1h0h1-f0l0k0b0", "s1s0;h0?");
        x.clue(0, 0, 1, 0);
        Texts.row(x, 0, "s1s0h0h1");
        x.image();
    }

    /** Items of 0 and 1 by turns, so that what is put between them shows; sheet 3 holds nothing. */
    private static void fillSheets(LastTrick x) {
        x.sheet(0, 0, 8);
        x.sheet(1, 1, 6);
        x.sheet(2, 2, 0);
        for (int i = 1; i < 8; i += 2) {
            x.item(0, 0, i, 1);
            x.item(1, 1, i, 1);
        }
    }

    /** Six clues, of which some must be dropped, and eighty bytes. */
    private static void fill(LastTrick x) {
        x.clue(1, 0, 0, 0);
        x.clue(1, 1, 0, 0);
        x.clue(3, 0, 2, 0);
        x.clue(0, 1, 2, 0);
        Texts.type(x, "s0s1s2h0h1d3;;" + " ".repeat(66));
    }
}
