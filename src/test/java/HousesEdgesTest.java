/** Promises 25 to 30, two houses and what a mayor can do: a test for each sentence that names an edge. */
public final class HousesEdgesTest {
    /**
     * House 0 has two goers that know its bridge alone, and two that the houses vie for. By y of house 1 it asks
     * y + 2, but 6 by 0; house 1 asks one less than would be as dear: 6 0, 6 3, 5 3, 5 2, 4 2, 4 1, 3 1, 3 0, 6 0.
     */
    private static final String RING = "tab0;uab2;rab2;jab*2s2;jba*2s1";
    private static final String APART = "tab0;jab*1;ucd0;jcd*1";

    private static void answers() {
        Hand.promise(25, "none: n below 1 or above 60", () -> {
            int[] bad = {0, -1, 61, Integer.MIN_VALUE, Integer.MAX_VALUE};
            for (int n : bad) {
                Hand.refused(RING, "answers(" + n + ")", x -> x.answers(n));
                Hand.refused(APART, "answers(" + n + ")", x -> x.answers(n));
            }
            Hand.asked(RING, "answers(1)", x -> x.answers(1));
            Hand.asked(RING, "answers(60)", x -> x.answers(60));
        });
        Hand.promise(25, "none: too many sets of either house", () -> {
            Hand.refused(Hand.CROWDED, "answers(5), house 0", x -> x.answers(5));
            Hand.refused(Hand.CROWDED.replace('t', 'u'), "answers(5), house 1", x -> x.answers(5));
            Hand.asked(Hand.FULL, "answers(5)", x -> x.answers(5));
            Hand.asked(Hand.FULL_FIVE.replace('t', 'u'), "answers(5)", x -> x.answers(5));
        });
        Hand.promise(25, "till both in a row change nothing, these two are not counted", () -> {
            TollsThatPay x = Hand.land("tab0;uab1;rab6;jab*1");
            Hand.due("one answer and two", x.answers(3), 1);
            Hand.due("row: takes, tolls", Hand.row(x), "1 0 1 0");
            Hand.due("tolls stay as they were", Hand.tolls(x), "0 0");
            Hand.ask(x, 1);
            Hand.due("none and two", x.answers(2), 0);
            Hand.due("row", Hand.row(x), "1 0 1 0");
        });
        Hand.promise(25, "house 0 first, then the other", () -> {
            TollsThatPay x = Hand.land(APART);
            Hand.due("0, 1, then none", x.answers(4), 2);
            Hand.due("row", Hand.row(x), "6 6 6 6");
            Hand.ask(x, 6, 0);
            Hand.due("one that changes nothing is counted, if the other then changes", x.answers(4), 2);
            Hand.ask(x, 0, 6);
            Hand.due("0 changes, the others do not", x.answers(3), 1);
        });
        Hand.promise(25, "-3: neither by then", () -> {
            TollsThatPay x = Hand.land(APART);
            Hand.due("1", x.answers(1), -3);
            Hand.due("row: then", Hand.row(x), "6 0 6 0");
            Hand.due("2", x.answers(2), -3);
            Hand.due("row: then", Hand.row(x), "6 6 6 6");
            Hand.due("3: one of both", x.answers(3), -3);
            Hand.ask(x, 6, 6);
            Hand.due("1 that changes nothing", x.answers(1), -3);
            Hand.due("2", x.answers(2), 0);
        });
        Hand.promise(25, "-2: a ring", () -> {
            TollsThatPay x = Hand.land(RING);
            Hand.due("ahead of it", x.answers(8), -3);
            Hand.due("row", Hand.row(x), "6 0 3 0");
            Hand.due("there", x.answers(9), -2);
            Hand.due("row", Hand.row(x), "12 0 6 0");
            Hand.due("no further", x.answers(60), -2);
            Hand.due("row", Hand.row(x), "12 0 6 0");
            Hand.due("tolls stay as they were", Hand.tolls(x), "0 0");
        });
        Hand.promise(25, "-2: a short ring, a long one", () -> {
            // those who know both take the cheaper one; two, or one, know that of house 0 alone
            TollsThatPay x = Hand.land("m2;tab0;uab0;rab7;jab*8;jab*2s1");
            Hand.due("2 0, 2 1, 1 1, 1 0", x.answers(4), -3);
            Hand.due("2 0", x.answers(5), -2);
            Hand.due("row", Hand.row(x), "4 0 2 0");
            x = Hand.land("m5;tab0;uab0;rab4;jab*4;jba*1s1");
            Hand.due("5 0, 5 4, 4 4, .. 1 1, 1 0", x.answers(10), -3);
            Hand.due("5 0", x.answers(11), -2);
            Hand.due("row", Hand.row(x), "5 0 5 0");
        });
        Hand.promise(25, "many answers", () -> {
            TollsThatPay x = Hand.land("m20;tab0;uab0;rab20;jab*1");
            Hand.ask(x, 20, 20);
            Hand.due("down to 0 by 1 each", x.answers(42), -3);
            Hand.due("and two that change nothing", x.answers(43), 41);
            Hand.due("row", Hand.row(x), "0 0 0 0");
        });
        Hand.promise(25, "tolls that were there behind an answer: not those of now", () -> {
            TollsThatPay x = Hand.land(RING);
            Hand.ask(x, 3, 0);
            Hand.due("8 come round to them", x.answers(8), -3);
            Hand.due("row", Hand.row(x), "6 0 3 0");
            Hand.due("9", x.answers(9), -2);
            Hand.due("row", Hand.row(x), "12 0 6 0");
        });
        Hand.promise(25, "behind an answer of the same house", () -> {
            TollsThatPay x = Hand.land("tab0;rab3;jab*1");
            Hand.due("house 1 leaves them as they were behind house 0's: no ring", x.answers(2), -3);
            Hand.due("rest", x.answers(3), 1);
        });
        Hand.promise(25, "houses without roads", () -> {
            TollsThatPay x = Hand.land("rab1;jab*1");
            Hand.due("2", x.answers(2), 0);
            Hand.due("row", Hand.row(x), "0 0");
            Hand.due("1", x.answers(1), -3);
        });
        Hand.promise(25, "tolls of all tolled roads, by number", () -> {
            TollsThatPay x = Hand.land("ucd0;rab1;tab0;uef0;jab*1;jcd*2;jef*3/2");
            Hand.due("answers(9)", x.answers(9), 2);
            Hand.due("row", Hand.row(x), "1 18 6 1 2");
        });
    }

    private static void rests() {
        Hand.promise(26, "none: all of both houses together more than 2000", () -> {
            Hand.refused("m12;tab0;uab0;tab0;jab*1", "2197", x -> x.rests());
            Hand.refused("m6;tab0;uab0;tab0;uab0;jab*1", "2401", x -> x.rests());
            Hand.refused("m4;tab0;tab0;tab0;tab0;tab0;jab*1", "3125 of one house", x -> x.rests());
            Hand.refused(Hand.CROWDED, "20736", x -> x.rests());
            Hand.refused("m20;tab0;tab0;uab0;uab0;uab0", "4084101", x -> x.rests());
            Hand.asked("m11;tab0;uab0;tab0;jab*1", "1728", x -> x.rests());
            Hand.asked("m5;tab0;uab0;tab0;uab0;jab*1", "1296", x -> x.rests());
            Hand.asked("m3;tab0;tab0;tab0;tab0;tab0;jab*1", "1024 of one house", x -> x.rests());
            Hand.asked("m3;uab0;uab0;uab0;uab0;tab0;jab*1", "1024 of both", x -> x.rests());
        });
        Hand.promise(26, "neither house could take more", () -> {
            TollsThatPay x = Hand.land(RING);
            Hand.due("one", x.rests(), 1);
            Hand.due("row: it, and takes of both", Hand.row(x), "3 1 12 0");
            x = Hand.land("tab0;uab1;rab6;jab*1");
            Hand.due("two", x.rests(), 2);
            Hand.due("row: the first", Hand.row(x), "1 0 1 0");
        });
        Hand.promise(26, "none without: the row is empty", () -> {
            TollsThatPay x = Hand.land("tab0;uab0;rab7;m4;jab*2s1;jab*4");
            x.best(0);
            Hand.due("rests()", x.rests(), 0);
            Hand.due("row", Hand.row(x), "");
        });
        Hand.promise(26, "all are rests where nothing can be taken", () -> {
            TollsThatPay x = Hand.land("m2;tab0;ucd0;uef0");
            Hand.due("rests()", x.rests(), 27);
            Hand.due("row", Hand.row(x), "0 0 0 0 0");
        });
        Hand.promise(26, "no tolled roads: one, of none", () -> {
            TollsThatPay x = Hand.land("rab1;jab*1");
            Hand.due("rests()", x.rests(), 1);
            Hand.due("row", Hand.row(x), "0 0");
        });
        Hand.promise(26, "the first by all tolled roads' numbers, not by houses", () -> {
            TollsThatPay x = Hand.land("m2;uab0;tcd0;jab*1/2;jcd*1/1");
            Hand.due("rests()", x.rests(), 1);
            Hand.due("row", Hand.row(x), "2 1 1 2");
            x = Hand.land("m2;uab0;tcd0;uef0;jcd*1");
            Hand.due("rests()", x.rests(), 9);
            Hand.due("row", Hand.row(x), "0 2 0 2 0");
        });
        Hand.promise(26, "any other set of its own: of more than one road", () -> {
            TollsThatPay x = Hand.land("m2;tab0;tcd0;uab0;uef0;jab*1;jcd*1/1;jef*1/1");
            Hand.due("0 1 0 1, 1 1 0 1, 1 1 1 1", x.rests(), 3);
            Hand.due("row", Hand.row(x), "0 1 0 1 1 1");
        });
        Hand.promise(26, "the last set of all", () -> {
            TollsThatPay x = Hand.land("m2;tab0;ucd0;jab*1;jcd*1");
            Hand.due("rests()", x.rests(), 1);
            Hand.due("row", Hand.row(x), "2 2 2 2");
        });
        Hand.promise(26, "1728 of one house", () -> {
            TollsThatPay x = Hand.land("m11;uab0;ucd0;uef0;jab*1");
            Hand.due("rests()", x.rests(), 144);
            Hand.due("row", Hand.row(x), "11 0 0 0 11");
            x = Hand.land("m11;tab0;tcd0;tef0;jef*2");
            Hand.due("rests()", x.rests(), 144);
            Hand.due("row", Hand.row(x), "0 0 11 22 0");
        });
        Hand.promise(26, "1728 of both", () -> {
            TollsThatPay x = Hand.land("m11;uab0;tcd0;uef0;jab*1;jcd*1;jef*1");
            Hand.due("rests()", x.rests(), 1);
            Hand.due("row", Hand.row(x), "11 11 11 11 22");
        });
        Hand.promise(26, "again, by a lower cap", () -> {
            TollsThatPay x = Hand.land("tab0;ucd0;jab*1;jcd*1");
            x.rests();
            Hand.due("row", Hand.row(x), "6 6 6 6");
            Hand.tell(x, "m1");
            Hand.due("rests()", x.rests(), 1);
            Hand.due("row", Hand.row(x), "1 1 1 1");
            x = Hand.land("tab0;jab*1");
            x.rests();
            Hand.due("row", Hand.row(x), "6 6 0");
            Hand.tell(x, "m1");
            Hand.due("rests()", x.rests(), 1);
            Hand.due("row", Hand.row(x), "1 1 0");
        });
        Hand.promise(26, "the tolls of now do not matter and stay", () -> {
            TollsThatPay x = Hand.land(RING);
            Hand.ask(x, 6, 5);
            Hand.due("rests()", x.rests(), 1);
            Hand.due("row", Hand.row(x), "3 1 12 0");
            Hand.due("tolls", Hand.tolls(x), "6 5");
        });
    }

    private static void spare() {
        Hand.promise(27, "none: others", () -> Hand.refusedOfHouses("spare", (x, h) -> x.spare(h, 0)));
        Hand.promise(27, "none: too many sets", () -> {
            Hand.refusedOfManySets("spare", (x, h) -> x.spare(h, 0));
            Hand.refused(Hand.CROWDED, "spare of all four: the house's sets are counted", x -> x.spare(0, 4));
        });
        Hand.promise(27, "none: k below 0, or more than it has", () -> {
            int[] bad = {-1, 3, 4, 5, 6, Integer.MIN_VALUE, Integer.MAX_VALUE};
            for (int k : bad) {
                Hand.refused("tab0;tab0;uab0;uab0;uab0;rab4;jab*1", "spare(0, " + k + ")", x -> x.spare(0, k));
            }
            Hand.refused("tab0;rab4;jab*1", "a house without roads", x -> x.spare(1, 1));
            Hand.refused(Hand.FULL_FIVE, "spare(0, 6)", x -> x.spare(0, 6));
            Hand.asked("tab0;tab0;uab0;uab0;uab0;rab4;jab*1", "spare(0, 2)", x -> x.spare(0, 2));
            Hand.asked("tab0;tab0;uab0;uab0;uab0;rab4;jab*1", "spare(1, 3)", x -> x.spare(1, 3));
        });
        Hand.promise(27, "k 0: its best", () -> {
            TollsThatPay x = Hand.land("tab0;rab3;tcd0;rcd5;jab*1;jcd*2");
            Hand.due("spare(0, 0)", x.spare(0, 0), 13);
            Hand.due("row", Hand.row(x), "0 13");
        });
        Hand.promise(27, "the set with the least suffered, the row: bits of roads, take", () -> {
            TollsThatPay x = Hand.land("tab0;rab3;tcd0;rcd5;jab*1;jcd*2");
            Hand.due("spare(0, 1)", x.spare(0, 1), 3);
            Hand.due("row", Hand.row(x), "4 3");
        });
        Hand.promise(27, "k 5, all it has", () -> {
            TollsThatPay x = Hand.land(Hand.FULL_FIVE);
            Hand.ask(x, 1, 2, 3, 4, 5);
            Hand.due("spare(0, 5)", x.spare(0, 5), 0);
            Hand.due("row", Hand.row(x), "31 0");
            Hand.due("tolls stay", Hand.tolls(x), "1 2 3 4 5");
        });
        Hand.promise(27, "of equal ones the least set", () -> {
            TollsThatPay x = Hand.land("tab0;tbc0;rac5;jac*2");
            Hand.due("both alike", x.spare(0, 1), 10);
            Hand.due("row", Hand.row(x), "1 10");
            x = Hand.land("tab0;tcd0;tef0;jgh*1/3");
            Hand.due("all alike", x.spare(0, 2), 3);
            Hand.due("row", Hand.row(x), "3 0");
        });
        Hand.promise(27, "nothing is less than 0", () -> {
            TollsThatPay x = Hand.land("tab0;tcd0;jab*2");
            Hand.due("spare(0, 1)", x.spare(0, 1), 0);
            Hand.due("row", Hand.row(x), "1 0");
        });
        Hand.promise(27, "the last roads' bits", () -> {
            TollsThatPay x = Hand.land(Hand.times("rgh1", 12), "tab0;tcd0;jab*1/4;jcd*1/5");
            Hand.due("spare(0, 1)", x.spare(0, 1), 4);
            Hand.due("row", Hand.row(x), "8192 4");
            Hand.due("spare(0, 2)", x.spare(0, 2), 0);
            Hand.due("row", Hand.row(x), "12288 0");
        });
        Hand.promise(27, "made free: whatever its toll is now; the other house's as they are", () -> {
            TollsThatPay x = Hand.land("tab0;ubc0;rac9;jac*1");
            Hand.ask(x, 6, 5);
            Hand.due("spare(0, 1)", x.spare(0, 1), 5);
            Hand.due("row", Hand.row(x), "1 0");
            Hand.due("spare(0, 0)", x.spare(0, 0), 9);
            Hand.due("row", Hand.row(x), "0 4");
        });
    }

    private static void ceiling() {
        Hand.promise(28, "none: others", () -> Hand.refusedOfHouses("ceiling", (x, h) -> x.ceiling(h)));
        Hand.promise(28, "none: too many sets by the cap of now", () -> Hand.refusedOfManySets("ceiling", (x, h) -> x.ceiling(h)));
        Hand.promise(28, "the cap with the least suffered", () -> {
            TollsThatPay x = Hand.land("tab2;rab5;jab*3");
            Hand.due("ceiling(0)", x.ceiling(0), 6);
            Hand.due("row: cap, take", Hand.row(x), "0 0");
            Hand.due("cap stays", x.count(4), 6);
        });
        Hand.promise(28, "by the lean of now", () -> {
            TollsThatPay x = Hand.land("tab0;rab1;jab*1");
            Hand.due("1 is as good as the ford, and paid", x.ceiling(0), 0);
            Hand.due("row", Hand.row(x), "0 0");
            x.lean(1);
            Hand.due("1 is as good as the ford, and nothing is paid by any cap", x.ceiling(0), 0);
            Hand.due("row", Hand.row(x), "6 0");
        });
        Hand.promise(28, "behind another question", () -> {
            TollsThatPay x = Hand.land("tab2;rab5;jab*3");
            x.spare(0, 0);
            Hand.due("row", Hand.row(x), "0 9");
            x.ceiling(0);
            Hand.due("row", Hand.row(x), "0 0");
        });
        Hand.promise(28, "of equal ones the greatest", () -> {
            TollsThatPay x = Hand.land("tab2;jcd*3/4");
            Hand.due("all alike", x.ceiling(0), 12);
            Hand.due("row", Hand.row(x), "6 0");
            x = Hand.land("tab2;rab2;jab*1;m20");
            Hand.due("nothing to ask", x.ceiling(0), 2);
            Hand.due("row", Hand.row(x), "20 0");
        });
        Hand.promise(28, "a cap of 0", () -> {
            TollsThatPay x = Hand.land("tab2;rab5;jab*3;m0");
            Hand.due("ceiling(0)", x.ceiling(0), 6);
            Hand.due("row", Hand.row(x), "0 0");
        });
        Hand.promise(28, "the other house's tolls as they are", () -> {
            TollsThatPay x = Hand.land("uab2;tcd1;rab9;jab*1");
            x.toll(0, 6);
            Hand.due("ceiling(0)", x.ceiling(0), 8);
            Hand.due("row", Hand.row(x), "6 0");
            Hand.due("tolls stay", Hand.tolls(x), "6 0");
        });
    }

    private static void without() {
        Hand.promise(29, "none: no such house", () -> Hand.refusedOfHouses("without", (x, h) -> x.without(h, 1)));
        Hand.promise(29, "none: too many sets", () -> {
            Hand.refusedOfManySets("without", (x, h) -> x.without(h, x.count(0) - 1));
            Hand.refused(Hand.CROWDED, "though without this one there were fewer", x -> x.without(0, 0));
        });
        Hand.promise(29, "none: no such road", () -> {
            int[] bad = {-1, 2, 14, 31, 32, Integer.MIN_VALUE, Integer.MAX_VALUE};
            for (int road : bad) {
                Hand.refused("tab2;rab5;jab*3", "without(0, " + road + ")", x -> x.without(0, road));
            }
        });
        Hand.promise(29, "of any road", () -> {
            TollsThatPay x = Hand.land("tab2;rab5;rab6;uab9;jab*3");
            Hand.due("the ford", x.without(0, 1), 3);
            Hand.due("another one", x.without(0, 2), 0);
            Hand.due("its own", x.without(0, 0), -9);
            Hand.due("the other house's", x.without(0, 3), 0);
            Hand.due("of the house without use", x.without(1, 0), 0);
            Hand.due("all is there still", x.best(0), 9);
            Hand.due("ways", x.ways(0), 4);
            Hand.due("roads", x.count(0), 4);
        });
        Hand.promise(29, "above 0: it would pay not to have it", () -> {
            Hand.due("a road of none that spoils it", Hand.land("rab0;tab1;rab6;jab*1").without(0, 0), 5);
            // by the short one 2 can be asked at most, so that 3 on the two others is all, and 4 without it
            Hand.due("one of its own", Hand.land("m2;tca0;tcb2;tba3;jab*2").without(0, 2), 2);
        });
        Hand.promise(29, "-1, meant as such", () -> {
            TollsThatPay x = Hand.land("tab0;rab1;jab*1");
            x.best(0);
            Hand.due("without(0, 0)", x.without(0, 0), -1);
            Hand.due("the row stays", Hand.row(x), "1");
        });
        Hand.promise(29, "slow ones know all others that they knew", () -> {
            TollsThatPay x = Hand.land("rab1;tab2;rab5;jab*1s2");
            Hand.due("not the ford behind", x.without(0, 0), 6);
            x = Hand.land("rcd1;tab2;jab*1s2");
            Hand.due("the bridge still", x.without(0, 0), 0);
        });
        Hand.promise(29, "the road is there still when a text is told", () -> {
            TollsThatPay x = Hand.land("tab2;rab5;jab*3");
            x.without(0, 1);
            Hand.tell(x, "rcd1");
            Hand.due("ways", x.ways(0), 2);
            Hand.due("best(0)", x.best(0), 9);
            x.without(0, 0);
            Hand.tell(x, "m20");
            Hand.due("best(0)", x.best(0), 9);
            x.without(0, 0);
            Hand.due("ford(0, 0, 1, 4)", x.ford(0, 0, 1, 4), 6 - 9);
        });
        Hand.promise(29, "none goes by it, from wherever", () -> {
            Hand.due("the ford, from b to a", Hand.land("tab2;rab5;jba*3").without(0, 1), 18 - 9);
            Hand.due("the bridge, from b to a", Hand.land("tab0;rab3;jba*1").without(0, 0), -3);
            Hand.due("the ford, from c to b", Hand.land("tcb2;rcb5;jcb*3;rac0;rab0").without(0, 1), 0);
            Hand.due("the ways round by a", Hand.land("tcb2;rcb5;jcb*3;rac0;rab0").without(0, 3), 9);
        });
        Hand.promise(29, "no way is left", () -> Hand.due("none goes", Hand.land("tab0;rbc0;jac*2").without(0, 1), -12));
        Hand.promise(29, "the last road of 14", () -> {
            TollsThatPay x = Hand.land(Hand.times("rab9", 12), "tab0;rab2;jab*1");
            Hand.due("without(0, 13)", x.without(0, 13), 4);
            Hand.due("without(0, 12)", x.without(0, 12), -2);
        });
        Hand.promise(29, "the other house's tolls as they are", () -> {
            TollsThatPay x = Hand.land("tab0;uab1;rab6;jab*1");
            x.toll(1, 4);
            Hand.due("without(0, 1)", x.without(0, 1), 1);
            Hand.due("tolls stay", Hand.tolls(x), "0 4");
            Hand.due("without(1, 0)", x.without(1, 0), 5);
        });
    }

    private static void ford() {
        Hand.promise(30, "none: no such house", () -> Hand.refusedOfHouses("ford", (x, h) -> x.ford(h, 0, 1, 5)));
        Hand.promise(30, "none: too many sets", () -> Hand.refusedOfManySets("ford", (x, h) -> x.ford(h, 0, 1, 99)));
        Hand.promise(30, "two corners 0 .. 7", () -> {
            int[] bad = {-1, 8, 31, 32, Integer.MIN_VALUE, Integer.MAX_VALUE};
            for (int corner : bad) {
                Hand.refused("tab2;rab5;jab*3", "ford from " + corner, x -> x.ford(0, corner, 1, 5));
                Hand.refused("tab2;rab5;jab*3", "ford to " + corner, x -> x.ford(0, 0, corner, 5));
            }
            Hand.due("0 and 7", Hand.land("tah0;jah*2").ford(0, 0, 7, 2), 4 - 12);
            Hand.due("7 and 0", Hand.land("tah0;jah*2").ford(0, 7, 0, 2), 4 - 12);
        });
        Hand.promise(30, "unlike", () -> {
            for (int corner = 0; corner < 8; corner++) {
                int c = corner;
                Hand.refused("tab2;rab5;jab*3", "ford at " + c, x -> x.ford(0, c, c, 5));
            }
        });
        Hand.promise(30, "cost 0 .. 99", () -> {
            int[] bad = {-1, 100, Integer.MIN_VALUE, Integer.MAX_VALUE};
            for (int cost : bad) {
                Hand.refused("tab2;rab5;jab*3", "ford of " + cost, x -> x.ford(0, 0, 1, cost));
            }
            Hand.due("0", Hand.land("tab2;rab5;jab*3").ford(0, 0, 1, 0), -9);
            Hand.due("99", Hand.land("tab2;rab5;jab*3").ford(0, 0, 1, 99), 0);
        });
        Hand.promise(30, "hours 0", () -> Hand.due("of worth 9", Hand.land("tab2;jab*3w9").ford(0, 0, 1, 4), 6 - 18));
        Hand.promise(30, "none: 14 roads", () -> {
            TollsThatPay x = Hand.land(Hand.times("rab9", 11), "tab2;jab*3;rab9");
            Hand.due("13 roads", x.ford(0, 0, 1, 5), -9);
            Hand.tell(x, "rcd1");
            x.best(0);
            Hand.due("14 roads", x.ford(0, 0, 1, 5), -1);
            Hand.due("the row stays", Hand.row(x), "6");
            Hand.due("roads", x.count(0), 14);
        });
        Hand.promise(30, "the most ways there can be are not refused", () -> {
            TollsThatPay x = Hand.land(Hand.times("rab1", 3) + ";" + Hand.times("rbc1", 3) + ";" + Hand.times("rcd1", 3) + ";rde1;rde1;rde1",
                "tef1;jaf*1");
            Hand.due("without", x.best(0), 6);
            Hand.due("81 ways more", x.ford(0, 4, 5, 3), 2 - 6);
            Hand.due("ways", x.ways(0), 81);
        });
        Hand.promise(30, "with it less without: more, as many, fewer", () -> {
            Hand.due("a way to the bridge", Hand.land("tab2;rcd9;jca*1").ford(0, 1, 2, 0), 6);
            Hand.due("elsewhere", Hand.land("tab2;rab5;jab*3").ford(0, 2, 3, 0), 0);
            Hand.due("-1, meant as such", Hand.land("tab0;rab5;jab*1").ford(0, 0, 1, 4), -1);
            Hand.due("of a house without roads", Hand.land("tab2;rab5;jab*3").ford(1, 0, 1, 0), 0);
        });
        Hand.promise(30, "it has the next number", () -> {
            Hand.due("a slow one does not know it", Hand.land("tab2;rab5;jab*3s2").ford(0, 0, 1, 0), 0);
            Hand.due("a slow one knows it", Hand.land("tab2;rab5;jab*3s3").ford(0, 0, 1, 0), -9);
            Hand.due("of draws it is the last", Hand.land("tab0;rcb0;rab9;jab*1;m0").ford(0, 0, 2, 0), 0);
        });
        Hand.promise(30, "the land stays as it was", () -> {
            TollsThatPay x = Hand.land("tab2;rab5;jab*3;jac*1");
            x.toll(0, 3);
            String before = Hand.state(x);
            x.line(0);
            x.ford(0, 0, 2, 1);
            Hand.due("row", Hand.row(x), "0 3 6 9 0 0 0");
            Hand.due("state", Hand.state(x), before);
            Hand.due("ways", x.ways(1), 0);
            Hand.due("ford(0, 0, 1, 3)", x.ford(0, 0, 1, 3), 3 - 9);
            Hand.due("again", x.ford(0, 0, 1, 3), 3 - 9);
        });
    }

    public static void main(String[] args) {
        answers();
        rests();
        spare();
        ceiling();
        without();
        ford();
        Hand.finish(25, 30);
    }
}
