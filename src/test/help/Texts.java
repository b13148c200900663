/** What the tests share. */
final class Texts {
    private Texts() {
    }

    /** Types a text, eight bytes a call; answers what the last call answers. */
    static int type(LastTrick x, String text) {
        int size = 0;
        for (int i = 0; i < text.length(); i += 8) {
            String part = text.substring(i, Math.min(text.length(), i + 8));
            long v = 0;
            for (char c : part.toCharArray()) {
                v = v << 8 | c;
            }
            size = x.type(v, part.length());
        }
        return size;
    }

    static int game(LastTrick x, String text) {
        type(x, text);
        return x.game();
    }

    static int table(LastTrick x, String text) {
        type(x, text);
        return x.table();
    }

    /** A game and, unless it is null, a table. */
    static void read(LastTrick x, String game, String table) {
        game(x, game);
        if (table != null) {
            table(x, table);
        }
    }

    /** Puts cards, told as in texts, on sheet 3, a sheet of bytes then, and tells them as a row. */
    static int row(LastTrick x, int begins, String cards) {
        int n = cards.length() / 2;
        x.sheet(3, 0, n);
        for (int i = 0; i < n; i++) {
            x.item(3, 0, i, card(cards.substring(2 * i, 2 * i + 2)));
        }
        return x.row(begins, 3, 0, 0);
    }

    /** A text with other suits: those of "shdc" become those of names, one by one. */
    static String renamed(String text, String names) {
        StringBuilder b = new StringBuilder();
        for (char c : text.toCharArray()) {
            int suit = "shdc".indexOf(c);
            b.append(suit < 0 ? c : names.charAt(suit));
        }
        return b.toString();
    }

    static int card(String name) {
        return 4 * "shdc".indexOf(name.charAt(0)) + name.charAt(1) - '0';
    }
}
