import java.util.ArrayList;
import java.util.List;
import java.util.NoSuchElementException;
import java.util.Random;

/**
 * Scripts of calls with arguments of all kinds. Each is run bare first, 512 calls on one object: nothing
 * but the NoSuchElementException of of and row may come out. Then two more objects have its beginning:
 * one all calls, its row being read behind each, the other one only those that are to change something.
 * In the end both must look alike. No object has more than 512 calls, reading it counted: what later
 * calls answer is free.
 */
public final class FuzzTest {
    private static final int MOST_CALLS = 512;
    /** What reading a row, and what reading all the rest of an object, may cost. */
    private static final int ROW_CALLS = 25;
    private static final int STATE_CALLS = 7 + 6 * 14 + 3 + 10;
    private static final long THROWN = Long.MIN_VALUE;
    private static final String SIGNS = "rtujmabcdefgh0123456789+*wcs/@-;";
    private static final int[] EXTREMES = {Integer.MIN_VALUE, Integer.MIN_VALUE + 1, -65536, -2, -1, 0, 1, 2, 3, 4, 5, 6, 7, 8, 9,
        10, 11, 13, 14, 15, 20, 21, 31, 32, 33, 60, 61, 96, 97, 99, 100, 101, 255, 65536, Integer.MAX_VALUE - 1, Integer.MAX_VALUE};
    /** Those that change something besides the row come last, set the very last: it seeks as questions do. */
    private static final String[] NAMES = {"pains", "room", "take", "suffered", "by", "ways", "ties", "bound", "above", "gap",
        "without", "ford", "learn", "last", "count", "of", "row",
        "way", "best", "given", "line", "bends", "climb", "times", "answers", "rests", "spare", "ceiling", "mean", "safe", "fair",
        "sign", "end", "tell", "toll", "lean", "weight", "set"};
    private static final int FIRST_WITH_ROW = 17;
    private static final int FIRST_CHANGING = 31;
    private static final int SIGN = 31;
    private static final int END = 32;
    private static final int TELL = 33;
    private static int wrong = 0;

    private static int some(Random r) {
        return r.nextInt(3) == 0 ? EXTREMES[r.nextInt(EXTREMES.length)] : r.nextInt(5) == 0 ? r.nextInt() : r.nextInt(10) - 1;
    }

    private static String text(Random r) {
        StringBuilder s = new StringBuilder();
        int items = 1 + r.nextInt(10);
        for (int i = 0; i < items; i++) {
            char a = (char) ('a' + r.nextInt(8));
            char b = (char) ('a' + (a - 'a' + 1 + r.nextInt(7)) % 8);
            int kind = r.nextInt(5);
            s.append(i > 0 ? ";" : "");
            if (kind == 0) s.append("m").append(r.nextInt(22));
            else if (kind == 1) s.append("j").append(a).append(b).append("*9c").append(r.nextInt(4)).append("-5/").append(r.nextInt(99));
            else s.append(kind == 2 ? r.nextInt(2) == 0 ? "t" : "u" : "r").append(a).append(b).append(r.nextInt(9)).append("+1");
        }
        return s.toString();
    }

    private static void spell(Random r, List<int[]> steps) {
        String s = text(r);
        int signs = 0;
        for (int i = 0; i < s.length() && i < 100; i += 4) {
            int v = 0;
            for (int k = 0; k < 4; k++) v = v << 8 | (i + k < s.length() ? s.charAt(i + k) : SIGNS.charAt(r.nextInt(SIGNS.length())));
            steps.add(new int[] {SIGN, v, 0, 0, 0});
            signs += 4;
        }
        steps.add(new int[] {END, r.nextInt(6) == 0 ? r.nextInt(100) : Math.min(s.length(), signs), 0, 0, 0});
        steps.add(new int[] {TELL, 0, 0, 0, 0});
    }

    /** A step is the call's place in NAMES, and its arguments. */
    private static List<int[]> script(Random r) {
        List<int[]> steps = new ArrayList<>();
        while (steps.size() < MOST_CALLS) {
            if (steps.isEmpty() || r.nextInt(14) == 0) {
                spell(r, steps);
            } else {
                steps.add(new int[] {r.nextInt(NAMES.length), some(r), some(r), some(r), some(r)});
            }
        }
        return steps.subList(0, MOST_CALLS);
    }

    private static long ask(TollsThatPay x, int[] step) {
        int a = step[1];
        int b = step[2];
        switch (NAMES[step[0]]) {
            case "sign": return x.sign(a);
            case "end": return x.end(a) ? 1 : -1;
            case "tell": return x.tell();
            case "toll": return x.toll(a, b);
            case "lean": return x.lean(a);
            case "way": return x.way(a, b);
            case "pains": return x.pains(a, b);
            case "room": return x.room(a, b);
            case "take": return x.take(a);
            case "suffered": return x.suffered();
            case "by": return x.by(a);
            case "ways": return x.ways(a);
            case "best": return x.best(a);
            case "set": return x.set(a);
            case "ties": return x.ties(a);
            case "bound": return x.bound(a);
            case "given": return x.given(a);
            case "above": return x.above(a, b);
            case "line": return x.line(a);
            case "bends": return x.bends(a);
            case "climb": return x.climb(a);
            case "gap": return x.gap(a);
            case "times": return x.times(a);
            case "answers": return x.answers(a);
            case "rests": return x.rests();
            case "spare": return x.spare(a, b);
            case "ceiling": return x.ceiling(a);
            case "without": return x.without(a, b);
            case "ford": return x.ford(a, b, step[3], step[4]);
            case "weight": return x.weight(a, b);
            case "mean": return x.mean(a);
            case "safe": return x.safe(a);
            case "learn": return x.learn(a, b);
            case "last": return x.last(a);
            case "fair": return x.fair(a);
            case "count": return x.count(a);
            default: return told(x, step);
        }
    }

    private static long told(TollsThatPay x, int[] step) {
        try {
            return NAMES[step[0]].equals("of") ? x.of(step[1], step[2]) : x.row(step[1]);
        } catch (NoSuchElementException e) {
            return THROWN;
        }
    }

    /** All that can be seen of an object but its row; its weights are 0 behind that. */
    private static String state(TollsThatPay x) {
        int roads = x.count(0);
        StringBuilder s = new StringBuilder().append(roads).append(' ');
        for (int i = 1; i < 8; i++) s.append(i == 6 ? 0 : x.count(i)).append(' ');
        for (int i = 0; i < roads; i++) {
            for (int k = 0; k < 6; k++) s.append(x.of(i, k)).append(' ');
        }
        s.append(x.suffered()).append(' ').append(x.take(0)).append(' ').append(x.take(1));
        for (int i = 0; i < 10; i++) s.append(' ').append(x.weight(i, 0));
        return s.toString();
    }

    private static String row(TollsThatPay x) {
        int size = x.count(6);
        StringBuilder s = new StringBuilder().append(size);
        for (int i = 0; i < size; i++) s.append(' ').append(x.row(i));
        return s.toString();
    }

    private static void fault(int seed, int[] step, String what) {
        wrong++;
        System.out.println("seed " + seed + ": " + (step == null ? "" : NAMES[step[0]] + " (" + step[1] + ", " + step[2] + ") ") + what);
    }

    private static void runBare(List<int[]> steps) {
        TollsThatPay x = new TollsThatPay();
        for (int[] step : steps) {
            ask(x, step);
        }
    }

    private static void runBeside(int seed, List<int[]> steps) {
        TollsThatPay x = new TollsThatPay();
        TollsThatPay changed = new TollsThatPay();
        String said = "0";
        int calls = 0;
        for (int[] step : steps) {
            if (calls + 1 + ROW_CALLS + STATE_CALLS > MOST_CALLS) {
                break;
            }
            long answer = ask(x, step);
            String says = row(x);
            boolean refused = answer == TollsThatPay.NONE && step[0] != TELL;
            boolean mayTell = step[0] >= FIRST_WITH_ROW && step[0] < FIRST_CHANGING && !refused;
            if (!mayTell && !says.equals(said)) {
                fault(seed, step, "changed the row " + said + " to " + says);
            }
            if (step[0] >= FIRST_CHANGING && !refused) {
                ask(changed, step);
            }
            said = says;
            calls += 2 + says.split(" ").length;
        }
        String seen = state(x);
        String due = state(changed);
        if (!seen.equals(due)) {
            fault(seed, null, "is " + seen + ", by the calls that change something it is " + due);
        }
    }

    public static void main(String[] args) {
        int runs = args.length > 0 ? Integer.parseInt(args[0]) : 1500;
        for (int seed = 1; seed <= runs && wrong < 20; seed++) {
            try {
                List<int[]> steps = script(new Random(seed));
                runBare(steps);
                runBeside(seed, steps);
            } catch (RuntimeException e) {
                fault(seed, null, "threw " + e);
            }
        }
        System.out.println(wrong == 0 ? "nothing thrown, nothing changed" : wrong + " wrong");
        if (wrong > 0) System.exit(1);
    }
}
