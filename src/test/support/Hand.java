import java.util.ArrayList;
import java.util.List;
import java.util.NoSuchElementException;
import java.util.TreeSet;

/** What the tests by hand share: lands told as texts, and answers held against those that are due. */
final class Hand {
    interface Body {
        void run();
    }

    interface Call {
        int ask(TollsThatPay x);
    }

    interface HouseCall {
        int ask(TollsThatPay x, int house);
    }

    interface RoadCall {
        int ask(TollsThatPay x, int road);
    }

    /** A land whose house 0 has more than 20000 sets, 12 to the 4th. */
    static final String CROWDED = "m11;tab0;tab0;tab0;tab0;rab5;jab*2";
    /** As CROWDED with 11 to the 4th sets, 14641. */
    static final String FULL = "m10;tab0;tab0;tab0;tab0;rab5;jab*2";
    /** A land of five bridges, 8 to the 5th sets, and one of 7 to the 5th, 16807. */
    static final String CROWDED_FIVE = "m7;tab0;tab0;tab0;tab0;tab0;rab5;jab*2";
    static final String FULL_FIVE = "m6;tab0;tab0;tab0;tab0;tab0;rab5;jab*2";

    private static final TreeSet<Integer> TESTED = new TreeSet<>();
    private static int tests = 0;
    private static int wrong = 0;
    private static String at = "";

    private Hand() {
    }

    /** What follows tests that promise. */
    static void begin(int number, String sentence) {
        TESTED.add(number);
        tests++;
        at = number + ", " + sentence;
    }

    /** One test: a promise's number and its sentence. */
    static void promise(int number, String sentence, Body body) {
        begin(number, sentence);
        try {
            body.run();
        } catch (RuntimeException e) {
            fault("threw " + e);
        }
    }

    /** Exits with 1 if a test failed or a promise of these had none. */
    static void finish(int from, int to) {
        for (int p = from; p <= to; p++) {
            at = "promise " + p;
            if (!TESTED.contains(p)) {
                fault("has no test");
            }
        }
        System.out.println(wrong == 0 ? "promises " + from + " to " + to + ": " + tests + " tests hold" : wrong + " wrong");
        if (wrong > 0) {
            System.exit(1);
        }
    }

    private static void fault(String what) {
        wrong++;
        System.out.println(at + ": " + what);
    }

    static void due(String call, long got, long want) {
        if (got != want) {
            fault(call + " answered " + got + ", due is " + want);
        }
    }

    static void due(String call, String got, String want) {
        if (!got.equals(want)) {
            fault(call + " answered " + got + ", due is " + want);
        }
    }

    static void due(String call, boolean got, boolean want) {
        if (got != want) {
            fault(call + " answered " + got + ", due is " + want);
        }
    }

    static void spell(TollsThatPay x, String text) {
        int had = x.count(7);
        for (int i = 0; i < text.length(); i += 4) {
            int v = 0;
            for (int k = 0; k < 4; k++) {
                v = v << 8 | (i + k < text.length() ? text.charAt(i + k) : '?');
            }
            x.sign(v);
        }
        x.end(had + text.length());
    }

    static int tell(TollsThatPay x, String text) {
        spell(x, text);
        return x.tell();
    }

    static int told(String text) {
        return tell(new TollsThatPay(), text);
    }

    static TollsThatPay land(String... texts) {
        TollsThatPay x = new TollsThatPay();
        for (String text : texts) {
            if (tell(x, text) < 0) {
                fault(text + " was not told");
            }
        }
        return x;
    }

    static String times(String item, int n) {
        StringBuilder s = new StringBuilder();
        for (int i = 0; i < n; i++) {
            s.append(i > 0 ? ";" : "").append(item);
        }
        return s.toString();
    }

    static String row(TollsThatPay x) {
        StringBuilder s = new StringBuilder();
        for (int i = 0; i < x.count(6); i++) {
            s.append(i > 0 ? " " : "").append(x.row(i));
        }
        return s.toString();
    }

    static String of(TollsThatPay x, int road) {
        StringBuilder s = new StringBuilder();
        for (int what = 0; what < 6; what++) {
            s.append(what > 0 ? " " : "").append(x.of(road, what));
        }
        return s.toString();
    }

    /** The tolls of the tolled roads. */
    static String tolls(TollsThatPay x) {
        List<String> all = new ArrayList<>();
        for (int road = 0; road < x.count(0); road++) {
            if (x.of(road, 4) >= 0) {
                all.add("" + x.of(road, 5));
            }
        }
        return String.join(" ", all);
    }

    static void ask(TollsThatPay x, int... tolls) {
        int next = 0;
        for (int road = 0; road < x.count(0) && next < tolls.length; road++) {
            if (x.of(road, 4) >= 0) {
                x.toll(road, tolls[next]);
                next++;
            }
        }
    }

    static boolean throwsOf(TollsThatPay x, int road, int what) {
        try {
            x.of(road, what);
            return false;
        } catch (NoSuchElementException e) {
            return true;
        }
    }

    static boolean throwsRow(TollsThatPay x, int i) {
        try {
            x.row(i);
            return false;
        } catch (NoSuchElementException e) {
            return true;
        }
    }

    /** All that can be seen of an object but its row. */
    static String state(TollsThatPay x) {
        StringBuilder s = new StringBuilder();
        for (int what = 0; what < 8; what++) {
            s.append(what == 6 ? 0 : x.count(what)).append(' ');
        }
        for (int road = 0; road < x.count(0); road++) {
            s.append(of(x, road)).append("; ");
        }
        for (int worth = 0; worth < 10; worth++) {
            int was = x.weight(worth, 0);
            x.weight(worth, was);
            s.append(was).append(' ');
        }
        return s.append(x.take(0)).append(' ').append(x.take(1)).append(' ').append(x.suffered()).toString();
    }

    private static TollsThatPay prepared(String land) {
        TollsThatPay x = land(land);
        x.lean(1);
        x.weight(3, 5);
        ask(x, 1, 0, 1, 0, 1);
        x.climb(0);
        spell(x, "rab1");
        return x;
    }

    /** The call answers NONE, and land, tolls, weights, lean, row and text are as they were. */
    static void refused(String land, String name, Call call) {
        TollsThatPay x = prepared(land);
        String before = state(x);
        String said = row(x);
        due(name, call.ask(x), TollsThatPay.NONE);
        due("the state behind " + name, state(x), before);
        due("the row behind " + name, row(x), said);
        due("the text behind " + name, x.tell() >= 0 || x.count(0) >= 14 ? 1 : 0, 1);
    }

    /** The call is not refused, and land, tolls, weights, lean and text are as they were. */
    static void asked(String land, String name, Call call) {
        TollsThatPay x = prepared(land);
        String before = state(x);
        due(name + " is answered", call.ask(x) != TollsThatPay.NONE, true);
        due("the state behind " + name, state(x), before);
    }

    /** A question of a house is refused of others than 0 and 1. */
    static void refusedOfHouses(String name, HouseCall call) {
        int[] others = {-1, 2, 3, Integer.MIN_VALUE, Integer.MAX_VALUE};
        for (int house : others) {
            refused("tab2;rab5;jab*3", name + " of house " + house, x -> call.ask(x, house));
        }
    }

    /** It is refused of more than 20000 sets of that house; of fewer, it answers what is never -1 there. */
    static void refusedOfManySets(String name, HouseCall call) {
        refused(CROWDED, name + " with 20736 sets", x -> call.ask(x, 0));
        refused(CROWDED_FIVE, name + " with 32768 sets", x -> call.ask(x, 0));
        asked(FULL, name + " with 14641 sets", x -> call.ask(x, 0));
        asked(FULL_FIVE, name + " with 16807 sets", x -> call.ask(x, 0));
        refused(CROWDED.replace('t', 'u'), name + " of house 1 with 20736 sets", x -> call.ask(x, 1));
        asked(CROWDED, name + " of the other house", x -> call.ask(x, 1));
    }
}
