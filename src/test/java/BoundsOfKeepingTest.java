/** Boundary cases of promises 28 to 32: images and sheets. */
public final class BoundsOfKeepingTest extends Bounds {
    private static final String TWO_CARDS = "n2t1:s0s1-f1l0k0b?";

    public static void main(String[] args) {
        images();
        whatImagesKeep();
        whatImagesDoNotKeep();
        restoring();
        sizesOfSheets();
        newRows();
        dropping();
        items();
        lowestBits();
        end();
    }

    private static void images() {
        sentence(28, "is kept as an IMAGE: 1");
        for (Standing standing : Standing.values()) {
            due("image of " + standing, standing.make().image(), 1);
            for (Look look : new Look[] {Look.NOW, Look.TAPE_AS_GAME, Look.TAPE_AS_TABLE, Look.SHEETS}) {
                LastTrick x = standing.make();
                x.image();
                due("all stays: " + standing + " " + look, look.at(x).equals(look.at(standing.make())) ? 1 : 0, 1);
            }
            // behind it, restoring changes nothing
            LastTrick x = standing.make();
            x.image();
            due("restored: " + standing, Look.THEN.at(x).equals("1 " + Look.NOW.at(standing.make())) ? 1 : 0, 1);
        }
        LastTrick x = Standing.ALL.make();
        x.image();
        x.forget();
        x.image();
        x.clue(0, 0, 0, 0);
        due("restore", x.restore(), 1);
        due("the last image alone", x.count(0), 0);
    }

    /** What each call that changes something changes is as it was. */
    private static void whatImagesKeep() {
        sentence(29, "All is as it was then: 1");
        Call[] changes = {x -> Texts.game(x, TWO_CARDS), x -> Texts.game(x, Standing.GAME_TEXT), x -> Texts.table(x, ";;s0s1s2h0h1d3"),
            x -> x.set(3, 1), x -> x.set(4, 1), x -> x.set(5, 1), x -> x.set(6, 0), x -> x.set(7, 2), x -> x.clue(1, 1, 1, 0),
            LastTrick::forget, x -> Texts.row(x, 0, Standing.ROW_CARDS) + x.drop(3)};
        for (int i = 0; i < changes.length; i++) {
            for (Standing standing : new Standing[] {Standing.GAME, Standing.TABLE, Standing.ROW, Standing.ALL}) {
                LastTrick x = standing.make();
                x.image();
                changes[i].on(x);
                due("restore", x.restore(), 1);
                due(standing + " behind change " + i, Look.NOW.at(x).equals(Look.NOW.at(standing.make())) ? 1 : 0, 1);
                x = standing.make();
                x.image();
                changes[i].on(x);
                x.plays();
                x.drops();
                x.restore();
                changes[i].on(x);
                due("once more", Look.THEN.at(x).equals("1 " + Look.NOW.at(standing.make())) ? 1 : 0, 1);
            }
        }
        LastTrick x = new LastTrick();
        x.image();
        Texts.game(x, TWO_CARDS);
        due("restore", x.restore(), 1);
        due("no game then", x.told(0), NOT);
    }

    private static void whatImagesDoNotKeep() {
        sentence(28, "All but SHEETS, THE TAPE");
        LastTrick x = Standing.ALL.make();
        x.type('s', 1);
        x.image();
        x.type('0', 1);
        x.sheet(0, 1, 24);
        x.sheet(3, 0, 2);
        x.drop(1);
        x.restore();
        due("the tape goes on", x.type('x', 1), 3);
        due("its bytes are the same", x.table(), -22);
        due("a sheet is as it is now", x.drop(0), 24);
        due("one that was dropped", x.drop(1), NULL);
        due("one that is new", x.drop(3), 2);
        x.restore();
        due("the tape stays empty", x.type('s', 1), 1);
        due("sheets stay dropped", x.drop(0), NULL);
    }

    private static void restoring() {
        sentence(29, "NONE: there is none");
        for (Standing standing : new Standing[] {Standing.NOTHING, Standing.SHEETS, Standing.GAME}) {
            refused(standing, "restore", LastTrick::restore, NONE);
        }
        due("there is one", Standing.ALL.make().restore(), 1);
    }

    private static void sizesOfSheets() {
        sentence(30, "BAD: also n above 24; SIZE: n below 0");
        for (Standing standing : new Standing[] {Standing.NOTHING, Standing.ALL}) {
            beyond(standing, "sheet", 0, 3, (x, sheet) -> x.sheet(sheet, 0, 1));
            beyond(standing, "sheet of lane", 0, 2, (x, lane) -> x.sheet(0, lane, 1));
            for (int n : new int[] {25, 26, MOST}) {
                refused(standing, n + " items", x -> x.sheet(0, 0, n), BAD);
            }
            for (int n : new int[] {-1, -2, -24, LEAST}) {
                refused(standing, n + " items", x -> x.sheet(0, 0, n), SIZE);
                sentence(0, "(NULL, CAST, INDEX, SIZE in this order, behind BAD)");
                beyond(standing, "sheet of " + n, 0, 3, (x, sheet) -> x.sheet(sheet, 0, n));
                beyond(standing, "sheet of " + n + ", lane", 0, 2, (x, lane) -> x.sheet(0, lane, n));
            }
        }
        sentence(0, "sheets 0 .. 3: nothing (at first), or a row of a LANE: 0 bytes, 1 shorts, 2 ints, of 0 to 24 items");
        for (int sheet = 0; sheet < 4; sheet++) {
            for (int lane = 0; lane < 3; lane++) {
                for (int n : new int[] {0, 1, 23, 24}) {
                    LastTrick x = new LastTrick();
                    due("sheet " + sheet + " of " + n, x.sheet(sheet, lane, n), n);
                    due("the last item", x.item(sheet, lane, n - 1, 1), n == 0 ? INDEX : 1);
                    due("one behind it", x.item(sheet, lane, n, 1), INDEX);
                    for (int other = 0; other < 4; other++) {
                        due("sheet " + other, x.drop(other), other == sheet ? n : NULL);
                    }
                }
            }
        }
    }

    private static void newRows() {
        sentence(30, "A SHEET holds a new row of a LANE: n");
        LastTrick x = with(TWO_CARDS);
        for (int lane = 0; lane < 3; lane++) {
            due("a row", x.sheet(0, lane, 24), 24);
            for (int i = 0; i < 24; i++) {
                x.item(0, lane, i, 1);
            }
            due("full of 1", x.row(0, 0, lane, 22), 1);
            due("a new row", x.sheet(0, lane, 24), 24);
            x.item(0, lane, 23, 1);
            due("of 0 but for the last", x.row(0, 0, lane, 22), NONE);
            x.item(0, lane, 1, 1);
            due("the first is 0", x.row(0, 0, lane, 0), NONE);
            due("another lane", x.sheet(0, (lane + 1) % 3, 3), 3);
            due("no longer", x.item(0, lane, 0, 0), CAST);
            due("as many as it has", x.drop(0), 3);
        }
    }

    private static void dropping() {
        sentence(31, "BAD; NULL.");
        for (Standing standing : new Standing[] {Standing.NOTHING, Standing.ALL}) {
            beyond(standing, "drop", 0, 3, LastTrick::drop);
            refused(standing, "drop nothing", x -> x.drop(3), NULL);
        }
        sentence(31, "A SHEET holds nothing: how many items it had");
        LastTrick x = Standing.GAME.make();
        due("none", x.drop(2), 0);
        due("eight", x.drop(0), 8);
        due("six", x.drop(1), 6);
        for (int sheet = 0; sheet < 4; sheet++) {
            due("nothing", x.drop(sheet), NULL);
            due("no item", x.item(sheet, 0, 0, 0), NULL);
            due("no row", x.row(0, sheet, 0, 0), NULL);
        }
        x.sheet(1, 2, 24);
        due("all", x.drop(1), 24);
    }

    private static void items() {
        sentence(32, "BAD; NULL; CAST; INDEX");
        for (Standing standing : new Standing[] {Standing.SHEETS, Standing.ALL}) {
            for (int i : new int[] {LEAST, -1, 0, 5, 24, MOST}) {
                beyond(standing, "item", 0, 3, (x, sheet) -> x.item(sheet, 0, i, 77));
                beyond(standing, "item of lane", 0, 2, (x, lane) -> x.item(0, lane, i, 77));
                for (int lane = 0; lane < 3; lane++) {
                    int as = lane;
                    refused(standing, "item " + i + " of nothing", x -> x.item(3, as, i, 77), NULL);
                    for (int sheet = 0; sheet < 3; sheet++) {
                        int of = sheet;
                        if (sheet != lane) {
                            refused(standing, "item " + i + " of another lane", x -> x.item(of, as, i, 77), CAST);
                        }
                    }
                }
                refused(standing, "item " + i + " of none", x -> x.item(2, 2, i, 77), INDEX);
            }
            for (int i : new int[] {LEAST, -8, -1, 8, 9, 23, 24, MOST}) {
                refused(standing, "item " + i + " of eight", x -> x.item(0, 0, i, 77), INDEX);
            }
            for (int i : new int[] {-1, 6, 7}) {
                refused(standing, "item " + i + " of six", x -> x.item(1, 1, i, 77), INDEX);
            }
        }
        LastTrick x = with(TWO_CARDS);
        due("two items", x.sheet(3, 2, 2), 2);
        due("the first", x.item(3, 2, 0, 1), 1);
        due("the last", x.item(3, 2, 1, 0), 1);
        due("s1 s0", x.row(0, 3, 2, 0), NONE);
        due("the first again", x.item(3, 2, 0, 0), 1);
        due("s0 s0", x.row(0, 3, 2, 0), 1);
    }

    private static void lowestBits() {
        sentence(32, "becomes v, its lowest bits: 1");
        int[][] ones = {{1, 0x101, 0xFF01, LEAST | 1, -255}, {1, 0x10001, LEAST | 1, -65535}, {1}};
        int[][] others = {{2, 0x102, 255, -1, 0x81, MOST}, {0x101, 0x8001, -32767, -1, MOST}, {0x101, 0x10001, LEAST | 1, -1, LEAST, MOST}};
        LastTrick x = with(TWO_CARDS);
        for (int lane = 0; lane < 3; lane++) {
            x.sheet(0, lane, 2);
            for (int v : ones[lane]) {
                due(v + " in lane " + lane, x.item(0, lane, 1, v), 1);
                due("it is 1", x.row(0, 0, lane, 0), NONE);
            }
            for (int v : others[lane]) {
                due(v + " in lane " + lane, x.item(0, lane, 1, v), 1);
                due("it is no card of the pack", x.row(0, 0, lane, 0), 1);
            }
        }
    }
}
