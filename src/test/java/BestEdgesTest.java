/** Promises 14 to 24, and what terms 3 say of sets, the best and the row: a test for each sentence that names an edge. */
public final class BestEdgesTest {
    /** One bridge with which 2 and 4 bring as much, 4; 3 brings 3. */
    private static final String TWO_TOPS = "tab0;jab*1/2;jab*1/4";

    private static void refusals(int promise, String name, Hand.HouseCall call) {
        Hand.promise(promise, "none: others", () -> Hand.refusedOfHouses(name, call));
        Hand.promise(promise, "none: more than 20000 sets", () -> Hand.refusedOfManySets(name, call));
    }

    private static void best() {
        refusals(14, "best", (x, h) -> x.best(h));
        Hand.promise(14, "the greatest take, the row: the set", () -> {
            TollsThatPay x = Hand.land("tab2;rab5;jab*3;tcd0;jcd*1");
            Hand.due("best(0)", x.best(0), 15);
            Hand.due("row", Hand.row(x), "3 6");
        });
        Hand.promise(14, "of equal ones the first, by the first road's, then the second's", () -> {
            TollsThatPay x = Hand.land(TWO_TOPS);
            Hand.due("best(0)", x.best(0), 4);
            Hand.due("row", Hand.row(x), "2");
            x = Hand.land("tab0;tbc0;tcd0;rad7;jad*1");
            Hand.due("best(0)", x.best(0), 7);
            Hand.due("row", Hand.row(x), "0 1 6");
        });
        Hand.promise(14, "nothing to take: the first set of all", () -> {
            TollsThatPay x = Hand.land("tab1;tab1;rab0;jab*1");
            Hand.ask(x, 3, 4);
            Hand.due("best(0)", x.best(0), 0);
            Hand.due("row", Hand.row(x), "0 0");
        });
        Hand.promise(14, "tolls 0 .. cap", () -> {
            TollsThatPay x = Hand.land("tab0;jab*1");
            Hand.due("cap 6", x.best(0), 6);
            Hand.tell(x, "m0");
            Hand.due("cap 0", x.best(0), 0);
            Hand.due("row", Hand.row(x), "0");
            Hand.tell(x, "m20");
            Hand.due("cap 20", x.best(0), 20);
            Hand.due("row", Hand.row(x), "20");
        });
        Hand.promise(14, "the other house's as they are", () -> {
            TollsThatPay x = Hand.land("tab0;ubc0;rac6;jac*1");
            x.toll(1, 4);
            Hand.due("best(0)", x.best(0), 2);
            Hand.due("best(1)", x.best(1), 6);
            Hand.due("row", Hand.row(x), "6");
            x.toll(0, 1);
            Hand.due("best(1)", x.best(1), 5);
            Hand.due("tolls stay", Hand.tolls(x), "1 4");
        });
        Hand.promise(14, "by the lean of now", () -> {
            TollsThatPay x = Hand.land("tab2;rab5;jab*3");
            x.lean(1);
            Hand.due("best(0)", x.best(0), 6);
            Hand.due("row", Hand.row(x), "2");
        });
        Hand.promise(14, "at most 20000 sets", () -> {
            TollsThatPay x = Hand.land(Hand.FULL);
            Hand.due("14641", x.best(0), 10);
            Hand.due("row", Hand.row(x), "5 5 5 5");
            x = Hand.land(Hand.FULL_FIVE);
            Hand.due("16807", x.best(0), 10);
            Hand.due("row", Hand.row(x), "5 5 5 5 5");
            x = Hand.land("m20;tab0;tab0;tab0;uab9;uab9;rab19;jab*1");
            Hand.due("9261, two more of the other house", x.best(0), 9);
            Hand.due("441", x.best(1), 0);
            Hand.due("a house without roads", Hand.land(Hand.CROWDED).best(1), 0);
        });
        Hand.promise(14, "the last set of all", () -> {
            TollsThatPay x = Hand.land("tab0;tcd0;tef0;tgh0;tah0;jab*1;jcd*1;jef*1;jgh*1;jah*1");
            Hand.due("best(0)", x.best(0), 30);
            Hand.due("row", Hand.row(x), "6 6 6 6 6");
        });
    }

    private static void set() {
        Hand.promise(15, "none: others", () -> Hand.refusedOfHouses("set", (x, h) -> x.set(h)));
        Hand.promise(15, "none: more than 20000 sets", () -> {
            Hand.refused(Hand.CROWDED, "set with 20736 sets", x -> x.set(0));
            Hand.refused(Hand.CROWDED_FIVE, "set with 32768 sets", x -> x.set(0));
            Hand.due("set with 14641 sets", Hand.land(Hand.FULL).set(0), 10);
            Hand.due("set with 16807 sets", Hand.land(Hand.FULL_FIVE).set(0), 10);
            Hand.due("set of the other house", Hand.land(Hand.CROWDED).set(1), 0);
        });
        Hand.promise(15, "the best tolls are told: the take then", () -> {
            TollsThatPay x = Hand.land("tab0;tbc0;ubc9;rac6;jac*2");
            Hand.ask(x, 5, 1, 3);
            x.best(1);
            Hand.due("set(0)", x.set(0), 12);
            Hand.due("tolls, the other's as it was", Hand.tolls(x), "0 6 3");
            Hand.due("take(0)", x.take(0), 12);
            Hand.due("the row stays", Hand.row(x), "0");
        });
        Hand.promise(15, "again it is as good", () -> {
            TollsThatPay x = Hand.land(TWO_TOPS);
            x.toll(0, 4);
            Hand.due("set(0)", x.set(0), 4);
            Hand.due("the first of equal ones, though it asked another", Hand.tolls(x), "2");
            Hand.due("set(0)", x.set(0), 4);
            Hand.due("tolls", Hand.tolls(x), "2");
        });
        Hand.promise(15, "of a house without roads nothing is told", () -> {
            TollsThatPay x = Hand.land("tab0;jab*1");
            x.toll(0, 3);
            Hand.due("set(1)", x.set(1), 0);
            Hand.due("tolls", Hand.tolls(x), "3");
        });
    }

    private static void ties() {
        refusals(16, "ties", (x, h) -> x.ties(h));
        Hand.promise(16, "by lean 1 less by lean 0, whatever lean is", () -> {
            TollsThatPay x = Hand.land("tab2;rab5;jab*3");
            Hand.due("ties(0)", x.ties(0), -3);
            x.lean(1);
            Hand.due("ties(0)", x.ties(0), -3);
            Hand.due("lean stays", x.count(5), 1);
            Hand.due("take by lean 1", x.best(0), 6);
        });
        Hand.promise(16, "0: no draws", () -> {
            Hand.due("no other way", Hand.land("tab0;jab*1").ties(0), 0);
            Hand.due("home too far", Hand.land("tab0;jab*1/7").ties(0), 0);
            Hand.due("no roads", Hand.land("tab0;jab*1").ties(1), 0);
        });
        Hand.promise(16, "-1, meant as such", () -> Hand.due("ties(0)", Hand.land("tab0;rab6;jab*1").ties(0), -1));
        Hand.promise(16, "above 0: draws that lean to the other house's dear way", () -> {
            TollsThatPay x = Hand.land("tab0;uab0;jab*1;m1");
            x.toll(1, 1);
            Hand.due("draws at 1 go to either", x.ties(0), 0);
            x = Hand.land("tab1;uab0;jab*1;m3");
            x.toll(1, 3);
            Hand.due("2 by lean 1, 1 by lean 0", x.ties(0), 1);
        });
        Hand.promise(16, "the row stays", () -> {
            TollsThatPay x = Hand.land("tab2;rab5;jab*3");
            x.best(0);
            x.ties(0);
            Hand.due("row", Hand.row(x), "3");
        });
    }

    private static void bound() {
        refusals(17, "bound", (x, h) -> x.bound(h));
        Hand.promise(17, "of each goer many times the greatest tolls, alone", () -> {
            TollsThatPay x = Hand.land("tab0;rab2;jab*2;jab*3/1;jab*99/0;jcd*5;tac0+1;rac4;jac*1c0-2");
            Hand.due("bound(0)", x.bound(0), 2 * 2 + 3 + 0 + 0 + 4 + 3 + 2);
        });
        Hand.promise(17, "tolls to that house alone, the other's as they are", () -> {
            TollsThatPay x = Hand.land("tab0;ubc0;rac9;jac*1");
            x.toll(1, 4);
            Hand.due("bound(0)", x.bound(0), 5);
            x.toll(0, 6);
            Hand.due("bound(1)", x.bound(1), 3);
        });
        Hand.promise(17, "no more than cap each", () -> {
            Hand.due("cap 6", Hand.land("tab0;tbc0;jac*1;rac30").bound(0), 12);
            Hand.due("cap 0", Hand.land("tab0;jab*1;m0").bound(0), 0);
        });
        Hand.promise(17, "not below the best", () -> {
            TollsThatPay x = Hand.land(TWO_TOPS);
            Hand.due("bound(0)", x.bound(0), 6);
            Hand.due("best(0)", x.best(0), 4);
            Hand.due("bound(1)", x.bound(1), 0);
        });
    }

    private static void given() {
        refusals(18, "given", (x, h) -> x.given(h));
        Hand.promise(18, "each goer takes the way that it takes now", () -> {
            TollsThatPay x = Hand.land("tab0;rab3;tcd0;rcd5;jab*1;jcd*2");
            Hand.due("both go by bridges", x.given(0), 13);
            Hand.due("row", Hand.row(x), "3 5");
            Hand.ask(x, 4, 0);
            Hand.due("one does not", x.given(0), 10);
            Hand.due("row: the first such", Hand.row(x), "4 5");
            Hand.ask(x, 4, 6);
            Hand.due("none does", x.given(0), 0);
            Hand.due("row: the first such", Hand.row(x), "4 6");
        });
        Hand.promise(18, "the same way, not one as good", () -> {
            TollsThatPay x = Hand.land("tab0;tab0;jab*1");
            Hand.due("road 0 ahead of 1", x.given(0), 6);
            Hand.due("row", Hand.row(x), "6 6");
            Hand.ask(x, 6, 5);
            Hand.due("road 1", x.given(0), 5);
            Hand.due("row", Hand.row(x), "6 5");
        });
        Hand.promise(18, "the first such set", () -> {
            TollsThatPay x = Hand.land("tab0;tbc0;rac6;jac*1");
            Hand.ask(x, 2, 1);
            Hand.due("given(0)", x.given(0), 6);
            Hand.due("row", Hand.row(x), "0 6");
        });
        Hand.promise(18, "the tolls of now are one", () -> {
            TollsThatPay x = Hand.land("tab0;rab5;jab*1;m6");
            for (int v = 0; v <= 6; v++) {
                x.toll(0, v);
                Hand.due("given(0) from " + v, x.given(0), v <= 5 ? 5 : 0);
                Hand.due("row", Hand.row(x), v <= 5 ? "5" : "6");
            }
        });
        Hand.promise(18, "by the lean of now", () -> {
            TollsThatPay x = Hand.land("tab0;rab5;jab*1");
            x.lean(1);
            Hand.due("given(0)", x.given(0), 4);
        });
        Hand.promise(18, "of a house without roads", () -> {
            TollsThatPay x = Hand.land("tab0;jab*1");
            Hand.due("given(1)", x.given(1), 0);
            Hand.due("row", Hand.row(x), "");
        });
    }

    private static void above() {
        refusals(19, "above", (x, h) -> x.above(h, 0));
        Hand.promise(19, "a take of v at least", () -> {
            TollsThatPay x = Hand.land("tab2;rab5;jab*3");
            Hand.due("9: the greatest", x.above(0, 9), 1);
            Hand.due("10: none", x.above(0, 10), 0);
            Hand.due("7", x.above(0, 7), 1);
            Hand.due("6", x.above(0, 6), 2);
            Hand.due("1", x.above(0, 1), 3);
            Hand.due("0: all", x.above(0, 0), 7);
        });
        Hand.promise(19, "v of any kind", () -> {
            TollsThatPay x = Hand.land("tab2;rab5;jab*3");
            Hand.due("-1", x.above(0, -1), 7);
            Hand.due("the least", x.above(0, Integer.MIN_VALUE), 7);
            Hand.due("the greatest", x.above(0, Integer.MAX_VALUE), 0);
            Hand.due("one set of none", x.above(1, 0), 1);
            Hand.due("none of them", x.above(1, 1), 0);
        });
        Hand.promise(19, "all sets", () -> {
            Hand.due("14641", Hand.land(Hand.FULL).above(0, 0), 14641);
            Hand.due("16807", Hand.land(Hand.FULL_FIVE).above(0, 0), 16807);
            Hand.due("9261", Hand.land("m20;tab0;tab0;tab0").above(0, 0), 9261);
            Hand.due("1", Hand.land("m0;tab0;tab0;tab0").above(0, 0), 1);
        });
    }

    private static void refusedOfUntolled(int promise, String name, Hand.RoadCall call) {
        Hand.promise(promise, "none: others", () -> {
            int[] bad = {-1, 1, 3, 13, 14, 31, 32, Integer.MIN_VALUE, Integer.MAX_VALUE};
            for (int road : bad) {
                Hand.refused("tab2;rab5;uab3;jab*3", name + "(" + road + ")", x -> call.ask(x, road));
            }
            Hand.asked("tab2;rab5;uab3;jab*3", name + "(0)", x -> call.ask(x, 0));
            Hand.asked("tab2;rab5;uab3;jab*3", name + "(2)", x -> call.ask(x, 2));
        });
        Hand.promise(promise, "sets are not too many: one road's tolls alone", () -> {
            Hand.asked(Hand.CROWDED, name, x -> call.ask(x, 0));
            Hand.asked(Hand.CROWDED_FIVE, name, x -> call.ask(x, 4));
        });
    }

    private static void line() {
        refusedOfUntolled(20, "line", (x, r) -> x.line(r));
        Hand.promise(20, "take of its house by 0, 1, .., cap", () -> {
            TollsThatPay x = Hand.land("tab0;rab4;tcd0;jab*2;jcd*1");
            x.toll(2, 3);
            Hand.due("line(0)", x.line(0), 3 + 8);
            Hand.due("row", Hand.row(x), "3 5 7 9 11 3 3");
            Hand.due("tolls stay", Hand.tolls(x), "0 3");
        });
        Hand.promise(20, "this road's toll alone: others as they are", () -> {
            TollsThatPay x = Hand.land("tab0;tab0;uab0;rab4;jab*2;m5");
            Hand.ask(x, 5, 3, 2);
            Hand.due("line(0)", x.line(0), 4);
            Hand.due("row", Hand.row(x), "0 2 4 0 0 0");
            Hand.due("line(2), of house 1", x.line(2), 4);
            Hand.due("row", Hand.row(x), "0 2 4 0 0 0");
        });
        Hand.promise(20, "equal tolls of two roads of two houses go by number", () -> {
            TollsThatPay x = Hand.land("uab0;tab0;rab4;jab*1;m3");
            Hand.ask(x, 2, 0);
            Hand.due("line(1)", x.line(1), 1);
            Hand.due("row", Hand.row(x), "0 1 0 0");
            Hand.ask(x, 0, 2);
            Hand.due("line(0)", x.line(0), 2);
            Hand.due("row", Hand.row(x), "0 1 2 0");
        });
        Hand.promise(20, "cap 0: one number, cap 20: 21", () -> {
            TollsThatPay x = Hand.land("tab0;rab20;jab*1;m0");
            Hand.due("line(0)", x.line(0), 0);
            Hand.due("row", Hand.row(x), "0");
            Hand.tell(x, "m20");
            Hand.due("line(0)", x.line(0), 20);
            Hand.due("numbers", x.count(6), 21);
            Hand.due("row(20)", x.row(20), 20);
        });
        Hand.promise(20, "nothing to take", () -> {
            TollsThatPay x = Hand.land("tab0;m2");
            Hand.due("line(0)", x.line(0), 0);
            Hand.due("row", Hand.row(x), "0 0 0");
        });
    }

    private static void bends() {
        refusedOfUntolled(21, "bends", (x, r) -> x.bends(r));
        Hand.promise(21, "does not grow by as much as by the one ahead", () -> {
            TollsThatPay x = Hand.land("tab2;rab5;jab*3");
            Hand.due("0 3 6 9 0 0 0", x.bends(0), 2);
            Hand.due("row", Hand.row(x), "3 4");
            Hand.due("toll stays", x.of(0, 5), 0);
        });
        Hand.promise(21, "from 1 on", () -> {
            TollsThatPay x = Hand.land("tab0;rab1;jab*1");
            Hand.due("0 1 0 0 0 0 0", x.bends(0), 2);
            Hand.due("row", Hand.row(x), "1 2");
        });
        Hand.promise(21, "to cap - 1", () -> {
            TollsThatPay x = Hand.land("tab0;rab5;jab*1");
            Hand.due("0 1 2 3 4 5 0", x.bends(0), 1);
            Hand.due("row", Hand.row(x), "5");
            x = Hand.land("tab0;rab6;jab*1");
            Hand.due("0 1 2 3 4 5 6", x.bends(0), 0);
            Hand.due("row", Hand.row(x), "");
        });
        Hand.promise(21, "cap 0, 1: no toll between, cap 2: one", () -> {
            TollsThatPay x = Hand.land("tab0;rab1;jab*1;m0");
            x.line(0);
            Hand.due("cap 0", x.bends(0), 0);
            Hand.due("row", Hand.row(x), "");
            Hand.tell(x, "m1");
            x.line(0);
            Hand.due("cap 1", x.bends(0), 0);
            Hand.due("row", Hand.row(x), "");
            Hand.tell(x, "m2");
            Hand.due("0 1 0", x.bends(0), 1);
            Hand.due("row", Hand.row(x), "1");
        });
        Hand.promise(21, "a cap of 20", () -> {
            TollsThatPay x = Hand.land("tab0;rab19;jab*1;m20");
            Hand.due("bends(0)", x.bends(0), 1);
            Hand.due("row", Hand.row(x), "19");
        });
    }

    private static void climb() {
        Hand.promise(22, "none: no such house", () -> Hand.refusedOfHouses("climb", (x, h) -> x.climb(h)));
        Hand.promise(22, "one behind the other, round and round", () -> {
            // 1 beats the way round by the second, which then can ask 2, so that the first can ask 3, and so on
            TollsThatPay x = Hand.land("tab0;tcb0;rac1;jab*1/9;jcb*5/4");
            Hand.due("changes", x.climb(0), 5);
            Hand.due("row", Hand.row(x), "25 5 4");
            Hand.due("tolls stay as they were", Hand.tolls(x), "0 0");
        });
        Hand.promise(22, "from the tolls of now", () -> {
            TollsThatPay x = Hand.land("tab0;tbc0;rac6;jac*1;rab3;rbc5");
            Hand.due("from 0 0", x.climb(0), 2);
            Hand.due("row", Hand.row(x), "6 3 3");
            Hand.ask(x, 0, 4);
            Hand.due("from 0 4", x.climb(0), 1);
            Hand.due("row", Hand.row(x), "6 2 4");
            Hand.ask(x, 3, 3);
            Hand.due("from there", x.climb(0), 0);
            Hand.due("row", Hand.row(x), "6 3 3");
        });
        Hand.promise(22, "the least such; the one it has stays, if it is as good", () -> {
            TollsThatPay x = Hand.land(TWO_TOPS);
            Hand.due("from 0", x.climb(0), 1);
            Hand.due("row", Hand.row(x), "4 2");
            x.toll(0, 3);
            Hand.due("from 3", x.climb(0), 1);
            Hand.due("row", Hand.row(x), "4 2");
            x.toll(0, 4);
            Hand.due("from 4", x.climb(0), 0);
            Hand.due("row", Hand.row(x), "4 4");
            x = Hand.land("tab0;rab0+1;jcd*1");
            x.toll(0, 5);
            Hand.due("nothing to take", x.climb(0), 0);
            Hand.due("row", Hand.row(x), "0 5");
        });
        Hand.promise(22, "up to cap, down to 0", () -> {
            TollsThatPay x = Hand.land("tab0;jab*1");
            Hand.due("up", x.climb(0), 1);
            Hand.due("row", Hand.row(x), "6 6");
            x = Hand.land("tab0;tbc0;rac4;jac*1");
            Hand.ask(x, 5, 4);
            Hand.due("down", x.climb(0), 1);
            Hand.due("row", Hand.row(x), "4 0 4");
        });
        Hand.promise(22, "the other house's tolls stay, though it would pay to lower them", () -> {
            TollsThatPay x = Hand.land("tab0;ubc0;rac4;jac*1");
            Hand.ask(x, 3, 6);
            Hand.due("climb(0)", x.climb(0), 0);
            Hand.due("row", Hand.row(x), "0 3");
            Hand.due("gap(0)", x.gap(0), 0);
        });
        Hand.promise(22, "a house's own roads alone", () -> {
            TollsThatPay x = Hand.land("uab0;tab0;rab4;jab*1");
            Hand.ask(x, 3, 6);
            Hand.due("house 0", x.climb(0), 1);
            Hand.due("row", Hand.row(x), "2 2");
            Hand.ask(x, 5, 2);
            Hand.due("house 1", x.climb(1), 1);
            Hand.due("row", Hand.row(x), "2 2");
            Hand.due("tolls stay", Hand.tolls(x), "5 2");
        });
        Hand.promise(22, "a house without roads", () -> {
            TollsThatPay x = Hand.land("tab0;jab*1");
            Hand.due("climb(1)", x.climb(1), 0);
            Hand.due("row", Hand.row(x), "0");
        });
        Hand.promise(22, "cap 0", () -> {
            TollsThatPay x = Hand.land("tab0;jab*1;m0");
            Hand.due("climb(0)", x.climb(0), 0);
            Hand.due("row", Hand.row(x), "0 0");
        });
        Hand.promise(22, "sets are not gone through, so none are too many", () -> {
            TollsThatPay x = Hand.land("m20;tab0;tab0;tab0;tab0;tab0;rab9;jab*1");
            Hand.due("climb(0)", x.climb(0), 0);
            Hand.due("row", Hand.row(x), "0 0 0 0 0 0");
            Hand.ask(x, 0, 20, 20, 20, 20);
            Hand.due("climb(0)", x.climb(0), 1);
            Hand.due("row", Hand.row(x), "9 9 20 20 20 20");
        });
    }

    private static void gap() {
        refusals(23, "gap", (x, h) -> x.gap(h));
        Hand.promise(23, "the best above the climb", () -> {
            TollsThatPay x = Hand.land("tab0;tab0;rab4;jab*3");
            Hand.due("two side by side hold each other at 0", x.gap(0), 12);
            Hand.ask(x, 0, 5);
            Hand.due("0: the climb comes there", x.gap(0), 0);
            Hand.due("tolls stay", Hand.tolls(x), "0 5");
            Hand.due("a house without roads", x.gap(1), 0);
        });
        Hand.promise(23, "the row stays", () -> {
            TollsThatPay x = Hand.land("tab2;rab5;jab*3");
            x.best(0);
            x.toll(0, 6);
            x.gap(0);
            Hand.due("row", Hand.row(x), "3");
        });
    }

    private static void times() {
        refusals(24, "times", (x, h) -> x.times(h));
        Hand.promise(24, "of each time the best by journeys of it alone", () -> {
            TollsThatPay x = Hand.land("tab0;rab3+1;jab*2@0;jab*1w2@1;jcd*9@2;jab*1/1@3");
            Hand.due("best(0)", x.best(0), 9);
            Hand.due("times(0)", x.times(0), 6 + 5 + 0 + 1);
            Hand.due("row", Hand.row(x), "6 5 0 1");
            Hand.due("best(0) as ahead", x.best(0), 9);
            Hand.due("tolls stay", Hand.tolls(x), "0");
        });
        Hand.promise(24, "a time is at first 0", () -> {
            TollsThatPay x = Hand.land("tab0;jab*1;jab*1@0");
            Hand.due("times(0)", x.times(0), 12);
            Hand.due("row", Hand.row(x), "12 0 0 0");
        });
        Hand.promise(24, "the last time", () -> {
            TollsThatPay x = Hand.land("tab0;jab*1@3;jab*1c0-2@3");
            Hand.due("times(0)", x.times(0), 24);
            Hand.due("row", Hand.row(x), "0 0 0 24");
        });
        Hand.promise(24, "no roads: four times 0", () -> {
            TollsThatPay x = Hand.land("tab0;jab*1@3");
            Hand.due("times(1)", x.times(1), 0);
            Hand.due("row", Hand.row(x), "0 0 0 0");
        });
        Hand.promise(24, "the other house's tolls as they are, and the lean", () -> {
            TollsThatPay x = Hand.land("tab0;ubc0;rac6;jac*1@2");
            x.toll(1, 4);
            Hand.due("times(0)", x.times(0), 2);
            x.lean(1);
            Hand.due("times(0)", x.times(0), 1);
        });
    }

    public static void main(String[] args) {
        best();
        set();
        ties();
        bound();
        given();
        above();
        line();
        bends();
        climb();
        gap();
        times();
        Hand.finish(14, 24);
    }
}
