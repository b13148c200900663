import com.sun.management.ThreadMXBean;
import java.lang.management.ManagementFactory;
import java.util.Random;

/** Long runs of calls with odd numbers: nothing is thrown, what is refused changes nothing, hardly any room is taken. */
public final class ManyCallsTest {
    private static final String[] TEXTS = {"n2t1:s0s1-f0l0k0b?", "n2t4:s0s1h0h1d0d1c0c1+cf1l1k1b1",
        "n3t4:s0s1s2s3h0h1h2h3d0d1d2d3+sf2l0k1b?", "n4t3:s0s1s2s3h0h1h2h3d0d1d2d3-f0l0k1b?", "n3t2:s0s1s2h0h1d3-f0l0k1b?",
        "n2t2:s0s1h0h1-f0l0k0b0", "n4t4", "n2", "", " "};
    private static final String[] TABLES = {"s1s0;", ";??", "s0s1;h0h1", "?s0;h0?", "c1s0h1h0;d0d1s1c0", "s0s2s1;h0d3h1;",
        "s0s1s2s3;h0h1h2?;d0??d3;", "s0s1s2;h0h1h2;d0d1d2d3h3s3", ";;s0s1h0h1h2h3d0d1d2d3??;", "x", ""};
    private static int wrong = 0;

    public static void main(String[] args) {
        for (int seed = 0; seed < 400; seed++) {
            run(seed);
        }
        measureRoom();
        System.out.println(wrong == 0 ? "400 runs are as due" : wrong + " calls are not as due");
        if (wrong != 0) {
            System.exit(1);
        }
    }

    private static void say(String what) {
        wrong++;
        System.out.println(what);
    }

    private static void run(int seed) {
        Random r = new Random(seed);
        LastTrick x = new LastTrick();
        LastTrick y = new LastTrick();
        boolean watched = seed % 4 == 0;
        for (int i = 0; i < 500; i++) {
            int which = r.nextInt(34);
            long args = r.nextLong();
            String before = watched ? look(x) : "";
            long a = call(x, which, new Random(args));
            long b = call(y, which, new Random(args));
            if (a != b) {
                say("seed " + seed + ": call " + which + " answered " + a + " and, on another object, " + b);
            }
            boolean refused = a == -1 || a == -2 || a == -3 || a <= -11 && a >= -14;
            if (watched && refused && !before.equals(look(x))) {
                say("seed " + seed + ": call " + which + " was refused with " + a + " and changed something");
            }
        }
    }

    private static int odd(Random r, int most) {
        int[] odd = {-1, -2, Integer.MIN_VALUE, Integer.MAX_VALUE, most + 1, 16, 12, 4};
        return r.nextInt(8) == 0 ? odd[r.nextInt(odd.length)] : r.nextInt(most + 1);
    }

    private static long call(LastTrick x, int which, Random r) {
        switch (which) {
            case 0:
                return x.type(r.nextLong() & 0x7F7F7F7F7F7F7F7FL, odd(r, 8));
            case 1:
                Texts.type(x, TEXTS[r.nextInt(TEXTS.length)]);
                return r.nextInt(3) == 0 ? x.game() : 0;
            case 2:
                Texts.type(x, TABLES[r.nextInt(TABLES.length)]);
                return x.table();
            case 3:
                return x.told(odd(r, 7));
            case 4:
                return x.set(odd(r, 7), odd(r, 3));
            case 5:
                return x.heap(odd(r, 3), odd(r, 11));
            case 6:
                return x.wins(r.nextInt(0x11000), odd(r, 3));
            case 7:
                return x.clue(odd(r, 3), odd(r, 5), odd(r, 5), r.nextInt(3) == 0 ? odd(r, 3) : 0);
            case 8:
                return r.nextInt(3) == 0 ? x.forget() : 0;
            case 9:
                return x.plays();
            case 10:
                return x.may(odd(r, 15));
            case 11:
                return x.sure(odd(r, 15));
            case 12:
                return x.under(odd(r, 3), odd(r, 11));
            case 13:
                return x.trick(odd(r, 3), odd(r, 1));
            case 14:
                return x.first(odd(r, 11));
            case 15:
                return x.fewest(odd(r, 3));
            case 16:
                return x.drops();
            case 17:
                return x.turned();
            case 18:
                return x.others(odd(r, 29));
            default:
                return callRows(x, which, r);
        }
    }

    private static long callRows(LastTrick x, int which, Random r) {
        switch (which) {
            case 19:
                return x.row(odd(r, 3), odd(r, 3), odd(r, 2), odd(r, 12));
            case 20:
                return x.leaves();
            case 21:
                return x.who(odd(r, 11), odd(r, 1));
            case 22:
                return x.best(odd(r, 12));
            case 23:
                return x.falls(odd(r, 11));
            case 24:
                return x.knows(odd(r, 3), odd(r, 3));
            case 25:
                return x.count(odd(r, 2));
            case 26:
                return x.image();
            case 27:
                return x.restore();
            case 28:
                return x.sheet(odd(r, 3), odd(r, 2), odd(r, 24));
            case 29:
                return r.nextInt(3) == 0 ? x.drop(odd(r, 3)) : 0;
            case 30:
                return x.item(odd(r, 3), odd(r, 2), odd(r, 23), r.nextInt());
            case 31:
            case 32:
                return tellFirst(x, r);
            default:
                Texts.type(x, TEXTS[r.nextInt(TEXTS.length)]);
                return 0;
        }
    }

    /** Makes the first play the row, so that rows are told at all. */
    private static long tellFirst(LastTrick x, Random r) {
        int cards = x.told(0) * x.told(1);
        if (x.first(0) < 0 || x.sheet(2, 1, 14) < 0) {
            return 0;
        }
        for (int i = 0; i < cards; i++) {
            x.item(2, 1, i + 1, x.first(i));
        }
        if (x.row(x.first(-1), 2, 1, 1) != -4) {
            say("the first play is not lawful");
        } else if (x.leaves() != -4) {
            say("the first play does not leave the table");
        }
        return 0;
    }

    /** All that a caller can see but the tape and what lies on the sheets. */
    private static String look(LastTrick x) {
        StringBuilder b = new StringBuilder();
        for (int i = 0; i < 8; i++) {
            b.append(x.told(i)).append(' ');
        }
        for (int c = 0; c < 4; c++) {
            for (int i = -1; i < 12; i++) {
                b.append(x.heap(c, i)).append(' ');
            }
        }
        for (int i = 0; i < 12; i++) {
            b.append(x.who(i, 0)).append(' ').append(x.who(i, 1)).append(' ').append(x.first(i)).append(' ');
        }
        return b.append(x.count(0)).append(x.count(1)).append(x.count(2)).append(x.plays()).toString();
    }

    private static void measureRoom() {
        ThreadMXBean bean = (ThreadMXBean) ManagementFactory.getThreadMXBean();
        LastTrick x = new LastTrick();
        long made = 0;
        for (int round = 0; round < 3; round++) {
            long before = bean.getThreadAllocatedBytes(Thread.currentThread().getId());
            x = new LastTrick();
            made = bean.getThreadAllocatedBytes(Thread.currentThread().getId()) - before;
        }
        Texts.type(x, TEXTS[3]);
        x.game();
        Texts.type(x, ";;s0s1h0h1h2h3d0d1d2d3??;");
        x.table();
        x.plays();
        long before = bean.getThreadAllocatedBytes(Thread.currentThread().getId());
        for (int i = 0; i < 50; i++) {
            x.set(3, i % 4);
            x.plays();
            x.others(-1);
            x.turned();
            x.drops();
            x.fewest(-1);
            x.sheet(0, 0, 24);
            x.row(0, 0, 0, 0);
            x.image();
            x.restore();
        }
        long used = bean.getThreadAllocatedBytes(Thread.currentThread().getId()) - before;
        if (made > 40_000 || used > 4_000) {
            say("an object takes " + made + " bytes, 500 calls " + used);
        }
    }
}
