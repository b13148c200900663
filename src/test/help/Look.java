/** What a caller can see of an object, by calls that may change it: it is looked at once, and so is its twin. */
enum Look {
    NOW, THEN, TAPE_AS_GAME, TAPE_AS_TABLE, SHEETS;

    String at(LastTrick x) {
        StringBuilder b = new StringBuilder();
        switch (this) {
            case NOW:
                lookAtTable(x, b);
                lookAtPlays(x, b);
                lookAtRow(x, b);
                break;
            case THEN:
                b.append(x.restore()).append(' ');
                lookAtTable(x, b);
                lookAtPlays(x, b);
                lookAtRow(x, b);
                break;
            case TAPE_AS_GAME:
                b.append(x.type(' ', 1)).append(' ').append(x.game()).append(' ');
                lookAtTable(x, b);
                break;
            case TAPE_AS_TABLE:
                b.append(x.type(' ', 1)).append(' ').append(x.table()).append(' ');
                lookAtTable(x, b);
                break;
            default:
                lookAtSheets(x, b);
                break;
        }
        return b.toString();
    }

    private static void lookAtTable(LastTrick x, StringBuilder b) {
        for (int what = 0; what < 8; what++) {
            b.append(x.told(what)).append(' ');
        }
        for (int chair = 0; chair < 4; chair++) {
            for (int i = -1; i < 12; i++) {
                b.append(x.heap(chair, i)).append(' ');
            }
        }
        b.append(x.count(0)).append(' ').append(x.count(1)).append(' ').append(x.count(2)).append(' ');
    }

    private static void lookAtPlays(LastTrick x, StringBuilder b) {
        b.append(x.plays()).append(' ').append(x.drops()).append(' ').append(x.turned()).append(' ');
        for (int card = 0; card < 16; card++) {
            b.append(x.may(card)).append(' ').append(x.sure(card)).append(' ');
        }
        for (int chair = -1; chair < 4; chair++) {
            b.append(x.fewest(chair)).append(' ');
            for (int i = 0; i < 6; i++) {
                b.append(x.under(chair, i)).append(' ');
            }
        }
        for (int k = 0; k < 4; k++) {
            b.append(x.trick(k, 0)).append(' ').append(x.trick(k, 1)).append(' ');
        }
        for (int i = -1; i < 12; i++) {
            b.append(x.first(i)).append(' ').append(x.others(i)).append(' ');
        }
    }

    private static void lookAtRow(LastTrick x, StringBuilder b) {
        b.append(x.leaves()).append(' ');
        for (int place = 0; place < 12; place++) {
            b.append(x.who(place, 0)).append(' ').append(x.who(place, 1)).append(' ');
            b.append(x.best(place)).append(' ').append(x.falls(place)).append(' ');
        }
        for (int chair = 0; chair < 4; chair++) {
            for (int k = 0; k < 4; k++) {
                b.append(x.knows(chair, k)).append(' ');
            }
        }
    }

    /** Items can be seen by rows alone: which places are not of a pack of 0 and 1, or twice. */
    private static void lookAtSheets(LastTrick x, StringBuilder b) {
        x.game();
        Texts.game(x, "n2t1:s0s1-f1l0k0b?");
        for (int sheet = 0; sheet < 4; sheet++) {
            for (int lane = 0; lane < 3; lane++) {
                for (int from = 0; from < 8; from++) {
                    b.append(x.row(0, sheet, lane, from)).append(' ');
                }
            }
            b.append(x.drop(sheet)).append(' ');
        }
    }
}
