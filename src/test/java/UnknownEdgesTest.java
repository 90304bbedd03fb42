/** Promises 31 to 39, what is not known and how the take is parted: a test for each sentence that names an edge. */
public final class UnknownEdgesTest {
    /** By worth 0, 1, 2 the bridge is worth 2 + worth; other worths are none of the crowd. */
    private static final String CROWD = "tab0;rab2+1;jab*1c0-2";

    private static void weightAll(TollsThatPay x, int v) {
        for (int worth = 0; worth < 10; worth++) {
            x.weight(worth, v);
        }
    }

    private static void weight() {
        Hand.promise(31, "what it was, at first 1", () -> {
            TollsThatPay x = new TollsThatPay();
            for (int worth = 0; worth < 10; worth++) {
                Hand.due("weight(" + worth + ", 99)", x.weight(worth, 99), 1);
                Hand.due("weight(" + worth + ", 0)", x.weight(worth, 0), 99);
                Hand.due("weight(" + worth + ", 5)", x.weight(worth, 5), 0);
            }
            Hand.due("each has its own", x.weight(0, 1), 5);
        });
        Hand.promise(31, "refused: a worth that is none", () -> {
            int[] bad = {-1, 10, 31, 32, Integer.MIN_VALUE, Integer.MAX_VALUE};
            for (int worth : bad) {
                Hand.refused(CROWD, "weight(" + worth + ", 1)", x -> x.weight(worth, 1));
            }
        });
        Hand.promise(31, "refused: a weight below 0 or above 99", () -> {
            int[] bad = {-1, 100, Integer.MIN_VALUE, Integer.MAX_VALUE};
            for (int v : bad) {
                Hand.refused(CROWD, "weight(3, " + v + ")", x -> x.weight(3, v));
            }
        });
        Hand.promise(31, "they stay when texts are told", () -> {
            TollsThatPay x = new TollsThatPay();
            x.weight(4, 7);
            Hand.tell(x, CROWD);
            Hand.due("weight(4, 0)", x.weight(4, 0), 7);
        });
    }

    private static void mean() {
        Hand.promise(32, "none: others", () -> Hand.refusedOfHouses("mean", (x, h) -> x.mean(h)));
        Hand.promise(32, "none: too many sets", () -> Hand.refusedOfManySets("mean", (x, h) -> x.mean(h)));
        Hand.promise(32, "the greatest sum of weight times take, the row: the set", () -> {
            TollsThatPay x = Hand.land(CROWD);
            Hand.due("2 by all, 3 by two, 4 by one", x.mean(0), 6);
            Hand.due("row: the first of 2 and 3", Hand.row(x), "2");
            x.weight(2, 3);
            Hand.due("10, 12, 12", x.mean(0), 12);
            Hand.due("row: the first of 3 and 4", Hand.row(x), "3");
            x.weight(2, 99);
            Hand.due("by the last one", x.mean(0), 99 * 4);
            Hand.due("row", Hand.row(x), "4");
        });
        Hand.promise(32, "a crowd of which the worth is none does not go", () -> {
            TollsThatPay x = Hand.land(CROWD);
            weightAll(x, 0);
            x.weight(3, 9);
            Hand.due("only worth 3", x.mean(0), 0);
            Hand.due("row", Hand.row(x), "0");
        });
        Hand.promise(32, "many of each, one goer a crowd", () -> {
            TollsThatPay x = Hand.land("tab0;rab3;jab*5c2-4;jab*1c4-4");
            Hand.due("5 by worths 2, 3, 6 by 4", x.mean(0), (5 + 5 + 6) * 3);
        });
        Hand.promise(32, "those of no crowd go by every worth", () -> {
            TollsThatPay x = Hand.land("tab0;rab3;jab*2;jab*1w4");
            Hand.due("ten times", x.mean(0), 10 * 3 * 3);
            x.weight(0, 0);
            x.weight(9, 5);
            Hand.due("by all weights", x.mean(0), 13 * 3 * 3);
        });
        Hand.promise(32, "all weights 0: the first set", () -> {
            TollsThatPay x = Hand.land("tab0;rab3;jab*2;tcd0");
            Hand.ask(x, 3, 3);
            weightAll(x, 0);
            Hand.due("mean(0)", x.mean(0), 0);
            Hand.due("row", Hand.row(x), "0 0");
        });
        Hand.promise(32, "the greatest sum", () -> {
            TollsThatPay x = Hand.land("tab0;tbc0;tcd0;rde0;m20;jae*99", Hand.times("jae*99w9", 6), "jae*99c4-9");
            weightAll(x, 99);
            Hand.due("mean(0)", x.mean(0), 99 * 60 * 99 * (7 * 10 + 6));
        });
        Hand.promise(32, "of a house without roads", () -> {
            TollsThatPay x = Hand.land(CROWD);
            x.best(0);
            Hand.due("mean(1)", x.mean(1), 0);
            Hand.due("row", Hand.row(x), "");
        });
    }

    private static void safe() {
        Hand.promise(33, "none: others", () -> Hand.refusedOfHouses("safe", (x, h) -> x.safe(h)));
        Hand.promise(33, "none: too many sets", () -> Hand.refusedOfManySets("safe", (x, h) -> x.safe(h)));
        Hand.promise(33, "none: all weights are 0", () -> {
            Hand.refused(CROWD, "safe", x -> {
                weightAll(x, 0);
                int answer = x.safe(0);
                weightAll(x, 1);
                x.weight(3, 5);
                return answer;
            });
            TollsThatPay x = Hand.land(CROWD);
            weightAll(x, 0);
            Hand.due("of a house without roads too", x.safe(1), -1);
            x.weight(9, 1);
            Hand.due("one is not", x.safe(0), 0);
        });
        Hand.promise(33, "the greatest least take over worths with a weight above 0", () -> {
            TollsThatPay x = Hand.land(CROWD);
            Hand.due("worths of none take nothing", x.safe(0), 0);
            Hand.due("row", Hand.row(x), "0");
            weightAll(x, 0);
            x.weight(1, 1);
            x.weight(2, 99);
            Hand.due("3 by both, however they weigh", x.safe(0), 3);
            Hand.due("row", Hand.row(x), "3");
            x.weight(1, 0);
            Hand.due("4 by one", x.safe(0), 4);
            x.weight(0, 1);
            Hand.due("2 by worth 0", x.safe(0), 2);
        });
        Hand.promise(33, "of equal ones the first", () -> {
            TollsThatPay x = Hand.land("tab0;tbc0;rac4;jac*2");
            Hand.due("safe(0)", x.safe(0), 8);
            Hand.due("row", Hand.row(x), "0 4");
        });
        Hand.promise(33, "worths 0 and 9", () -> {
            TollsThatPay x = Hand.land("tab0;rab1+1;jab*1c0-0;jab*2c9-9;m20");
            weightAll(x, 0);
            x.weight(0, 1);
            Hand.due("0", x.safe(0), 1);
            x.weight(9, 1);
            Hand.due("0 and 9", x.safe(0), 1);
            x.weight(0, 0);
            Hand.due("9", x.safe(0), 20);
        });
        Hand.promise(33, "as in mean: those of no crowd go by every worth", () -> {
            TollsThatPay x = Hand.land("tab0;rab3;jab*2;jab*1c7-7");
            Hand.due("safe(0)", x.safe(0), 6);
            weightAll(x, 0);
            x.weight(7, 1);
            Hand.due("with the crowd", x.safe(0), 9);
        });
    }

    private static void learn() {
        Hand.promise(34, "none: no such road", () -> {
            int[] bad = {-1, 2, 14, 31, 32, Integer.MIN_VALUE, Integer.MAX_VALUE};
            for (int road : bad) {
                Hand.refused(CROWD, "learn(" + road + ", 0)", x -> x.learn(road, 0));
            }
        });
        Hand.promise(34, "none: v below 0", () -> {
            Hand.refused(CROWD, "learn(0, -1)", x -> x.learn(0, -1));
            Hand.refused(CROWD, "learn(1, MIN)", x -> x.learn(1, Integer.MIN_VALUE));
        });
        Hand.promise(34, "worths with which just so many would go", () -> {
            TollsThatPay x = Hand.land(CROWD);
            x.toll(0, 3);
            Hand.due("1 by the bridge: 1, 2", x.learn(0, 1), 6);
            Hand.due("0 by the bridge: the others", x.learn(0, 0), 1017);
            Hand.due("1 by the ford: 0", x.learn(1, 1), 1);
            Hand.due("0 by the ford", x.learn(1, 0), 1022);
            Hand.due("2: none", x.learn(0, 2), 0);
            Hand.due("the greatest v", x.learn(0, Integer.MAX_VALUE), 0);
        });
        Hand.promise(34, "0: by all worths", () -> {
            TollsThatPay x = Hand.land("tab0;rcd1;jab*1");
            Hand.due("none goes there", x.learn(1, 0), 1023);
            Hand.due("one goes here", x.learn(0, 1), 1023);
            Hand.due("0", x.learn(0, 0), 0);
        });
        Hand.promise(34, "many of each, those of no crowd too", () -> {
            TollsThatPay x = Hand.land("tab0;jab*5;jab*4c8-9;jab*3c9-9;jab*7/0");
            Hand.due("5", x.learn(0, 5), 255);
            Hand.due("9", x.learn(0, 9), 256);
            Hand.due("12", x.learn(0, 12), 512);
        });
        Hand.promise(34, "worths of weight 0 too", () -> {
            TollsThatPay x = Hand.land(CROWD);
            weightAll(x, 0);
            Hand.due("learn(0, 1)", x.learn(0, 1), 7);
        });
        Hand.promise(34, "with the tolls and lean of now; the row stays", () -> {
            TollsThatPay x = Hand.land(CROWD);
            x.best(0);
            x.toll(0, 2);
            Hand.due("as dear by worth 0", x.learn(0, 1), 7);
            x.lean(1);
            Hand.due("as dear by worth 0, lean 1", x.learn(0, 1), 6);
            Hand.due("row", Hand.row(x), "2");
        });
    }

    private static void refusedRoads(int promise, String name, Hand.RoadCall call) {
        Hand.promise(promise, "none: no such road", () -> {
            int[] bad = {-1, 3, 13, 14, 31, 32, Integer.MIN_VALUE, Integer.MAX_VALUE};
            for (int road : bad) {
                Hand.refused("tab2;rab5;uab3;jab*3", name + "(" + road + ")", x -> call.ask(x, road));
            }
        });
        Hand.promise(promise, "none: a road of no house", () ->
            Hand.refused("tab2;rab5;uab3;jab*3", name + "(1)", x -> call.ask(x, 1)));
        Hand.promise(promise, "none: too many sets", () -> {
            Hand.refused(Hand.CROWDED, name + " with 20736 sets", x -> call.ask(x, 0));
            Hand.refused(Hand.CROWDED_FIVE, name + " with 32768 sets", x -> call.ask(x, 4));
            Hand.refused(Hand.CROWDED.replace('t', 'u'), name + " with 20736 sets", x -> call.ask(x, 3));
            Hand.asked(Hand.FULL, name + " with 14641 sets", x -> call.ask(x, 0));
            Hand.asked(Hand.FULL_FIVE, name + " with 16807 sets", x -> call.ask(x, 4));
            Hand.asked("m20;tab0;tab0;tab0;uab0;uab0;rab5;jab*1", name + " with 9261 sets", x -> call.ask(x, 0));
            Hand.asked("m20;tab0;tab0;tab0;uab0;uab0;rab5;jab*1", name + " with 441 sets", x -> call.ask(x, 4));
        });
    }

    private static void last() {
        refusedRoads(35, "last", (x, r) -> x.last(r));
        Hand.promise(35, "the best less that with this road free", () -> {
            TollsThatPay x = Hand.land("tab0;tbc0;rac5;jac*2;rab3;ucd0");
            x.best(0);
            Hand.due("0: the other can ask it all", x.last(0), 0);
            Hand.due("this can ask more", x.last(1), 4);
            Hand.due("of house 1", x.last(4), 0);
            Hand.due("the row stays", Hand.row(x), "0 5");
        });
        Hand.promise(35, "free, whatever its toll is now", () -> {
            TollsThatPay x = Hand.land("tab0;tab0;rab4;jab*2");
            Hand.ask(x, 6, 3);
            Hand.due("all is lost by one free", x.last(0), 8);
            Hand.due("all is lost by one free", x.last(1), 8);
            Hand.due("tolls stay", Hand.tolls(x), "6 3");
        });
        Hand.promise(35, "the only one: all", () -> Hand.due("last(0)", Hand.land("tab0;rab4;jab*2").last(0), 8));
        Hand.promise(35, "the other house's tolls as they are", () -> {
            TollsThatPay x = Hand.land("tab0;uab1;rab6;jab*1");
            x.toll(1, 4);
            Hand.due("last(0)", x.last(0), 5);
        });
    }

    private static void fair() {
        refusedRoads(36, "fair", (x, r) -> x.fair(r));
        Hand.promise(36, "one road: all", () -> {
            TollsThatPay x = Hand.land("tab0;rab4;jab*2");
            Hand.due("fair(0)", x.fair(0), 8);
            Hand.due("row", Hand.row(x), "8 1");
        });
        Hand.promise(36, "by all orders, all behind it being free", () -> {
            TollsThatPay x = Hand.land("tab0;tbc0;rac5;jac*2;rab3");
            Hand.due("6 ahead, 0 behind", x.fair(0), 3);
            Hand.due("row", Hand.row(x), "3 1");
            Hand.due("10 ahead, 4 behind", x.fair(1), 7);
            Hand.due("row", Hand.row(x), "7 1");
        });
        Hand.promise(36, "in lowest terms, cut", () -> {
            TollsThatPay x = Hand.land("tab0;tab0;rab5;jab*1");
            Hand.due("0 ahead, 5 behind", x.fair(1), 2);
            Hand.due("row", Hand.row(x), "5 2");
            x = Hand.land("tab0;tab0;tbc0;rac5;jac*1");
            Hand.due("5 sixths", x.fair(0), 0);
            Hand.due("row", Hand.row(x), "5 6");
            Hand.due("20 sixths", x.fair(2), 3);
            Hand.due("row", Hand.row(x), "10 3");
        });
        Hand.promise(36, "nothing: 0 of 1", () -> {
            TollsThatPay x = Hand.land("tab0;tcd0;jab*1;rab0");
            Hand.due("fair(1)", x.fair(1), 0);
            Hand.due("row", Hand.row(x), "0 1");
        });
        Hand.promise(36, "five roads", () -> {
            TollsThatPay x = Hand.land(Hand.FULL_FIVE);
            Hand.ask(x, 1, 2, 3, 4, 5);
            Hand.due("10 fifths", x.fair(4), 2);
            Hand.due("row", Hand.row(x), "2 1");
            x = Hand.land("tab0;tab0;tab0;tab0;tab0;rab4;jab*1");
            Hand.due("4 fifths", x.fair(2), 0);
            Hand.due("row", Hand.row(x), "4 5");
            x = Hand.land("tab0;tab0;tab0;tab0;tbc0;rac1;jac*1;m1");
            Hand.due("the one behind four", x.fair(4), 0);
            Hand.due("row", Hand.row(x), "4 5");
            Hand.due("one of the four", x.fair(1), 0);
            Hand.due("row", Hand.row(x), "1 20");
        });
        Hand.promise(36, "all of them are the best", () -> {
            TollsThatPay x = Hand.land("tab0;tbc0;tac3;rac5;jac*2;rab3;jab*1");
            int sum = 0;
            for (int road = 0; road < 3; road++) {
                x.fair(road);
                sum += x.row(0) * 6 / x.row(1);
            }
            Hand.due("sum of sixths", sum, 6 * x.best(0));
        });
        Hand.promise(36, "its house's roads alone, the other's tolls as they are", () -> {
            TollsThatPay x = Hand.land("tab0;uab1;uab9;rab6;jab*2");
            Hand.ask(x, 5, 4, 6);
            Hand.due("as dear as 1 + 4", x.fair(0), 10);
            Hand.due("row", Hand.row(x), "10 1");
            Hand.due("less dear than 5", x.fair(1), 6);
            Hand.due("row", Hand.row(x), "6 1");
            Hand.due("tolls stay", Hand.tolls(x), "5 4 6");
        });
    }

    private static void count() {
        Hand.promise(37, "what 0 .. 7", () -> {
            TollsThatPay x = Hand.land("tab2;uab5;rcd1;jab*30c2-6;jab*9;m9");
            x.lean(1);
            x.times(0);
            x.sign(0);
            int[] due = {3, 2, 2, 6, 9, 1, 4, 4};
            for (int what = 0; what < due.length; what++) {
                Hand.due("count(" + what + ")", x.count(what), due[what]);
            }
        });
        Hand.promise(37, "none for another what", () -> {
            int[] bad = {-1, 8, 31, 32, Integer.MIN_VALUE, Integer.MAX_VALUE};
            for (int what : bad) {
                Hand.refused(CROWD, "count(" + what + ")", x -> x.count(what));
            }
        });
        Hand.promise(37, "the most of each", () -> {
            TollsThatPay x = Hand.land(Hand.times("rab1", 9) + ";m20", Hand.times("tab1", 5), Hand.times("jab*9c1-6", 5), Hand.times("jab*9c1-6", 3));
            for (int i = 0; i < 25; i++) {
                x.sign(0);
            }
            int[] due = {14, 5, 8, 48, 20, 0, 0, 100};
            for (int what = 0; what < due.length; what++) {
                Hand.due("count(" + what + ")", x.count(what), due[what]);
            }
        });
        Hand.promise(37, "numbers of the row, the longest: 21", () -> {
            TollsThatPay x = Hand.land("m20;tab0");
            Hand.due("none at first", x.count(6), 0);
            x.line(0);
            Hand.due("21", x.count(6), 21);
        });
    }

    private static void of() {
        Hand.promise(38, "its corners as told, cost, hours, house, toll", () -> {
            TollsThatPay x = Hand.land("thg98+7;uab5;rcd1;tah99+9");
            x.toll(0, 3);
            x.toll(1, 6);
            Hand.due("of 0", Hand.of(x, 0), "7 6 98 7 0 3");
            Hand.due("of 1", Hand.of(x, 1), "0 1 5 0 1 6");
            Hand.due("of 2, of no house", Hand.of(x, 2), "2 3 1 0 -1 0");
            Hand.due("of 3", Hand.of(x, 3), "0 7 99 9 0 0");
        });
        Hand.promise(38, "the last of 14", () -> {
            TollsThatPay x = Hand.land(Hand.times("rab1", 12), "rab1;uef7+2");
            x.toll(13, 6);
            Hand.due("of 13", Hand.of(x, 13), "4 5 7 2 1 6");
            Hand.due("of 14 throws", Hand.throwsOf(x, 14, 0), true);
        });
        Hand.promise(38, "NoSuchElementException: no such road", () -> {
            TollsThatPay x = Hand.land("tab2;rab5");
            int[] bad = {-1, 2, 14, 31, 32, Integer.MIN_VALUE, Integer.MAX_VALUE};
            for (int road : bad) {
                Hand.due("of(" + road + ", 0) throws", Hand.throwsOf(x, road, 0), true);
                Hand.due("of(" + road + ", 5) throws", Hand.throwsOf(x, road, 5), true);
            }
            Hand.due("of a new object", Hand.throwsOf(new TollsThatPay(), 0, 0), true);
            Hand.due("of(1, 5)", x.of(1, 5), 0);
        });
        Hand.promise(38, "NoSuchElementException: another what", () -> {
            TollsThatPay x = Hand.land("tab2;rab5");
            int[] bad = {-1, 6, 31, 32, Integer.MIN_VALUE, Integer.MAX_VALUE};
            for (int what : bad) {
                Hand.due("of(0, " + what + ") throws", Hand.throwsOf(x, 0, what), true);
            }
        });
    }

    private static void row() {
        Hand.promise(39, "number i", () -> {
            TollsThatPay x = Hand.land("tab2;rab5;jab*3");
            x.line(0);
            Hand.due("row", Hand.row(x), "0 3 6 9 0 0 0");
            Hand.due("row(3)", x.row(3), 9);
        });
        Hand.promise(39, "NoSuchElementException: none such", () -> {
            TollsThatPay x = Hand.land("tab2;rab5;jab*3");
            Hand.due("none is told", Hand.throwsRow(x, 0), true);
            x.line(0);
            int[] bad = {-1, 7, 8, 20, 21, 31, 32, Integer.MIN_VALUE, Integer.MAX_VALUE};
            for (int i : bad) {
                Hand.due("row(" + i + ") throws", Hand.throwsRow(x, i), true);
            }
            Hand.due("the row stays", Hand.row(x), "0 3 6 9 0 0 0");
            x.way(0, 0);
            Hand.due("row(0)", Hand.throwsRow(x, 0), false);
            Hand.due("a number of the row ahead of it", Hand.throwsRow(x, 1), true);
            x.best(1);
            Hand.due("an empty row", Hand.throwsRow(x, 0), true);
        });
        Hand.promise(39, "the last of 21", () -> {
            TollsThatPay x = Hand.land("m20;tab0;jab*2");
            x.line(0);
            Hand.due("row(20)", x.row(20), 40);
            Hand.due("row(21) throws", Hand.throwsRow(x, 21), true);
        });
        Hand.promise(39, "numbers stay when land and tolls change", () -> {
            TollsThatPay x = Hand.land("tab2;rab5;jab*3");
            x.best(0);
            x.toll(0, 1);
            Hand.tell(x, "rab3;m2");
            x.end(0);
            Hand.due("row", Hand.row(x), "3");
        });
    }

    public static void main(String[] args) {
        weight();
        mean();
        safe();
        learn();
        last();
        fair();
        count();
        of();
        row();
        Hand.finish(31, 39);
    }
}
