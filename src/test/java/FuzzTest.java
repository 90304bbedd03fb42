import java.util.NoSuchElementException;
import java.util.Random;

/**
 * Runs of 512 calls with arguments of all kinds: nothing but the NoSuchElementException of of and row
 * may come out, a refused call changes nothing, and a question no tolls.
 */
public final class FuzzTest {
    private static final String SIGNS = "rtujmabcdefgh0123456789+*wcs/@-;";
    private static final int[] EXTREMES = {Integer.MIN_VALUE, Integer.MIN_VALUE + 1, -65536, -2, -1, 0, 1, 2, 3, 4, 5, 6, 7, 8, 9,
        13, 14, 15, 20, 21, 31, 32, 33, 60, 61, 99, 100, 101, 255, 65536, Integer.MAX_VALUE - 1, Integer.MAX_VALUE};
    private static int wrong = 0;

    private static int some(Random r) {
        return r.nextInt(3) == 0 ? EXTREMES[r.nextInt(EXTREMES.length)] : r.nextInt(5) == 0 ? r.nextInt() : r.nextInt(10) - 1;
    }

    private static void spell(Random r, TollsThatPay x) {
        StringBuilder s = new StringBuilder();
        int items = 1 + r.nextInt(10);
        for (int i = 0; i < items; i++) {
            char a = (char) ('a' + r.nextInt(8));
            char b = (char) ('a' + (a - 'a' + 1 + r.nextInt(7)) % 8);
            int kind = r.nextInt(5);
            s.append(i > 0 ? ";" : "");
            if (kind == 0) s.append("m").append(r.nextInt(22));
            else if (kind == 1) s.append("j").append(a).append(b).append("*9c").append(r.nextInt(4)).append("-5/").append(r.nextInt(99));
            else s.append(kind == 2 ? r.nextInt(2) == 0 ? "t" : "u" : "r").append(a).append(b).append(r.nextInt(9)).append("+1");
        }
        for (int i = 0; i < s.length() && i < 100; i += 4) {
            int v = 0;
            for (int k = 0; k < 4; k++) v = v << 8 | (i + k < s.length() ? s.charAt(i + k) : SIGNS.charAt(r.nextInt(SIGNS.length())));
            x.sign(v);
        }
        x.end(r.nextInt(6) == 0 ? r.nextInt(100) : Math.min(s.length(), x.count(7)));
    }

    private static String state(TollsThatPay x) {
        StringBuilder s = new StringBuilder();
        for (int i = 0; i < 6; i++) s.append(x.count(i)).append(' ');
        for (int i = 0; i < x.count(0); i++) {
            for (int k = 0; k < 6; k++) s.append(x.of(i, k)).append(' ');
        }
        return s.append(x.suffered()).append(' ').append(x.take(0)).append(' ').append(x.take(1)).toString();
    }

    private static String row(TollsThatPay x) {
        StringBuilder s = new StringBuilder();
        for (int i = 0; i < x.count(6); i++) s.append(x.row(i)).append(' ');
        return s.toString();
    }

    private static long question(int which, TollsThatPay x, int a, int b, int c, int d) {
        switch (which) {
            case 0: return x.way(a, b);
            case 1: return x.pains(a, b);
            case 2: return x.room(a, b);
            case 3: return x.take(a);
            case 4: return x.suffered();
            case 5: return x.by(a);
            case 6: return x.ways(a);
            case 7: return x.best(a);
            case 8: return x.ties(a) + 1000000;
            case 9: return x.bound(a);
            case 10: return x.given(a);
            case 11: return x.above(a, b);
            case 12: return x.line(a);
            case 13: return x.bends(a);
            case 14: return x.climb(a);
            case 15: return x.gap(a);
            case 16: return x.times(a);
            case 17: return x.answers(a);
            case 18: return x.rests();
            case 19: return x.spare(a, b);
            case 20: return x.ceiling(a);
            case 21: return x.without(a, b) + 1000000;
            case 22: return x.ford(a, b, c, d) + 1000000;
            case 23: return x.mean(a);
            case 24: return x.safe(a);
            case 25: return x.learn(a, b);
            case 26: return x.last(a);
            case 27: return x.fair(a);
            case 28: return x.count(a);
            default:
                try {
                    return which == 29 ? x.of(a, b) + 2 : x.row(a) + 1000000;
                } catch (NoSuchElementException e) {
                    return -1;
                }
        }
    }

    private static void run(int seed) {
        Random r = new Random(seed);
        TollsThatPay x = new TollsThatPay();
        for (int i = 0; i < 512; i++) {
            int which = r.nextInt(40);
            if (which < 31) {
                String before = state(x);
                String said = row(x);
                int a = some(r);
                int b = some(r);
                int c = some(r);
                int d = some(r);
                long answer = question(which, x, a, b, c, d);
                if (!before.equals(state(x)) || answer == -1 && !said.equals(row(x))) {
                    wrong++;
                    System.out.println("seed " + seed + ": question " + which + " (" + a + ", " + b + ") changed something");
                }
            } else if (which < 34) {
                spell(r, x);
                x.tell();
            } else if (which == 34) {
                x.sign(some(r));
            } else if (which == 35) {
                x.end(some(r));
            } else if (which == 36) {
                x.toll(some(r), some(r));
            } else if (which == 37) {
                x.lean(some(r));
            } else if (which == 38) {
                x.weight(some(r), some(r));
            } else {
                x.set(some(r));
            }
        }
    }

    public static void main(String[] args) {
        int runs = args.length > 0 ? Integer.parseInt(args[0]) : 60;
        for (int seed = 1; seed <= runs && wrong < 20; seed++) {
            try {
                run(seed);
            } catch (RuntimeException e) {
                wrong++;
                System.out.println("seed " + seed + ": threw " + e);
            }
        }
        System.out.println(wrong == 0 ? "nothing thrown, nothing changed" : wrong + " wrong");
        if (wrong > 0) System.exit(1);
    }
}
