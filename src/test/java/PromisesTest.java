/** Each promise by hand: ordinary calls, the edges that the document names, and wrong ones. */
public final class PromisesTest {
    private static void newObject() {
        Hand.begin(1, "a new object");
        TollsThatPay x = new TollsThatPay();
        int[] counts = {0, 0, 0, 0, 6, 0, 0, 0};
        for (int what = 0; what < counts.length; what++) {
            Hand.due("count(" + what + ")", x.count(what), counts[what]);
        }
        Hand.due("suffered()", x.suffered(), 0);
        Hand.due("take(1)", x.take(1), 0);
        Hand.due("best(0)", x.best(0), 0);
        Hand.due("rests()", x.rests(), 1);
        Hand.due("row", Hand.row(x), "0 0");
        Hand.due("answers(2)", x.answers(2), 0);
        Hand.due("answers(1)", x.answers(1), -3);
        Hand.due("weight(9, 4)", x.weight(9, 4), 1);
        Hand.due("NONE", TollsThatPay.NONE, -1);
        Hand.due("of throws", Hand.throwsOf(x, 0, 0) ? 1 : 0, 1);
    }

    private static void signs() {
        Hand.begin(2, "sign");
        TollsThatPay x = new TollsThatPay();
        for (int i = 1; i <= 25; i++) {
            Hand.due("sign " + i, x.sign(0x72616231), 4 * i);
        }
        Hand.due("sign 26", x.sign(0), -1);
        Hand.due("count(7)", x.count(7), 100);
        Hand.due("end(97)", x.end(97) ? 1 : 0, 1);
        Hand.due("sign to 101", x.sign(0), -1);
        Hand.due("end(96)", x.end(96) ? 1 : 0, 1);
        Hand.due("sign to 100", x.sign(0), 100);
        x.end(0);
        x.sign(0x72616237);
        Hand.due("tell", x.tell(), 1);
        Hand.due("cost", x.of(0, 2), 7);
        Hand.due("signs above 127", x.sign(-1), 4);
        Hand.due("tell", x.tell(), -1);
        x.sign(0x726162FF);
        Hand.due("tell", x.tell(), -4);

        Hand.begin(3, "end");
        Hand.due("end(0)", x.end(0) ? 1 : 0, 1);
        Hand.due("end(1)", x.end(1) ? 1 : 0, 0);
        x.sign(0x72616231);
        Hand.due("end(-1)", x.end(-1) ? 1 : 0, 0);
        Hand.due("end(MIN)", x.end(Integer.MIN_VALUE) ? 1 : 0, 0);
        Hand.due("end(5)", x.end(5) ? 1 : 0, 0);
        Hand.due("count(7)", x.count(7), 4);
        Hand.due("end(4)", x.end(4) ? 1 : 0, 1);
        Hand.due("end(3)", x.end(3) ? 1 : 0, 1);
        Hand.due("count(7)", x.count(7), 3);
        Hand.due("end(4)", x.end(4) ? 1 : 0, 0);
    }

    private static void texts() {
        Hand.begin(4, "tell");
        String[] bad = {"", "x", "raa1", "rai1", "rba", "r", "rab", "rab+", "rab100", "rab1000", "rab0990", "rab1;", "rab1+", "rab1+10",
            "rab1,", "jab1", "jab*", "jab*0", "jab*00", "jab*100", "jab*000", "jab*1c3-2", "jab*1c3-9", "jab*1c", "jab*1c3", "jab*1c3-",
            "jab*1w2c0-1", "jab*1s1w1", "jab*1@4", "jab*1@0/5", "jab*1/1000", "jab*1s", "m21", "m210", "m", "m;", ";", "jab*1w10",
            "rab1;;rab1", "tAB1", "jaa*1", "jab*1/1s1", "jab*1c9-10", "rab1+5+5"};
        int[] at = {-1, -1, -3, -3, -4, -2, -4, -4, -6, -6, -7, -6, -6, -7,
            -5, -4, -5, -5, -6, -7, -7, -9, -9, -7, -8, -9,
            -8, -8, -7, -8, -10, -7, -3, -4, -2, -2, -1, -8,
            -6, -2, -3, -8, -9, -7};
        for (int i = 0; i < bad.length; i++) {
            TollsThatPay x = new TollsThatPay();
            Hand.due("tell of " + bad[i], Hand.tell(x, bad[i]), at[i]);
            Hand.due("roads", x.count(0) + x.count(2), 0);
            Hand.due("signs left", x.count(7), 0);
        }
        String[] good = {"rab1", "rab099", "tab99+9", "uhg0", "jab*1", "jab*99c4-9s999/999@3", "jab*1c3-8", "jab*01c9-9", "jab*1w0s0/0@0",
            "jba*1/5", "jab*1@2", "m0", "m20", "m007", "m6;m7;rab1"};
        for (int i = 0; i < good.length; i++) {
            Hand.due("tell of " + good[i], Hand.tell(new TollsThatPay(), good[i]), good[i].startsWith("m6") ? 3 : 1);
        }
        TollsThatPay x = Hand.land("tab3+4;m2");
        Hand.due("tell", Hand.tell(x, "rcd1;m9;jab*1;rab"), -18);
        Hand.due("roads", x.count(0), 1);
        Hand.due("cap", x.count(4), 2);
        Hand.due("journeys", x.count(2), 0);
        Hand.due("of 0", Hand.of(x, 0), "0 1 3 4 0 0");
        x.toll(0, 2);
        Hand.due("m1", Hand.tell(x, "m1"), 1);
        Hand.due("cut toll", x.of(0, 5), 1);
        Hand.due("m5", Hand.tell(x, "m5"), 1);
        Hand.due("toll stays", x.of(0, 5), 1);
    }

    private static void longTexts() {
        Hand.begin(4, "tell, long texts and limits");
        String eleven = Hand.times("rab1", 11);
        Hand.due("59 signs", Hand.tell(new TollsThatPay(), Hand.times("rab1", 12)), 12);
        Hand.due("60 signs", Hand.tell(new TollsThatPay(), eleven + ";rab10"), 12);
        Hand.due("60 signs, too early an end", Hand.tell(new TollsThatPay(), eleven + ";rab1;"), -61);
        Hand.due("61 signs", Hand.tell(new TollsThatPay(), eleven + ";rab100"), -61);
        Hand.due("61 signs, could go on", Hand.tell(new TollsThatPay(), eleven + ";rab1;m"), -61);
        Hand.due("64 signs", Hand.tell(new TollsThatPay(), eleven + ";rab1;rab1"), -61);
        Hand.due("a number that ends at 60", Hand.tell(new TollsThatPay(), eleven + ";jab*05"), -60);
        Hand.due("60 signs, wrong at the end", Hand.tell(new TollsThatPay(), eleven + ";jab*0"), -60);
        Hand.due("100 signs, wrong in the middle", Hand.tell(new TollsThatPay(), Hand.times("rab1", 9) + ";q" + Hand.times("rab1", 10)), -46);

        TollsThatPay x = Hand.land(Hand.times("rab1", 12), Hand.times("rab1", 2));
        Hand.due("14 roads", x.count(0), 14);
        Hand.due("15 roads", Hand.tell(x, "m3;rab1"), -100);
        Hand.due("cap", x.count(4), 6);
        Hand.due("more journeys", Hand.tell(x, "jab*1"), 1);
        x = Hand.land(Hand.times("tab1", 3) + ";uab1;uab1");
        Hand.due("6 tolled", Hand.tell(x, "tab1"), -101);
        Hand.due("roads first", Hand.tell(x, eleven + ";tab1"), -100);
        Hand.due("tolled ahead of journeys", Hand.tell(x, Hand.times("jab*1", 9) + ";tab1"), -101);
        Hand.due("roads of none", Hand.tell(x, "rab1"), 1);
        x = Hand.land(Hand.times("jab*1", 8));
        Hand.due("9 journeys", Hand.tell(x, "jab*1"), -102);
        Hand.due("journeys", x.count(2), 8);
        Hand.due("9 at once", Hand.tell(new TollsThatPay(), Hand.times("jab*1", 9)), -102);

        x = Hand.land("rab1;rab1;rab1;rbc1;rbc1;rbc1;rcd1;rcd1;rcd1;rde1;rde1;rde1", "ref1;ref1;jaf*1/9");
        Hand.due("ways, home too", x.ways(0), 163);
    }

    private static void tolls() {
        Hand.begin(5, "toll");
        TollsThatPay x = Hand.land("rab1;tab2;uab3;jab*1");
        Hand.due("toll(1, 6)", x.toll(1, 6), 0);
        Hand.due("toll(1, 4)", x.toll(1, 4), 6);
        Hand.due("toll(2, 1)", x.toll(2, 1), 0);
        Hand.due("toll(1, 7)", x.toll(1, 7), -1);
        Hand.due("toll(1, -1)", x.toll(1, -1), -1);
        Hand.due("toll(0, 0)", x.toll(0, 0), -1);
        Hand.due("toll(3, 0)", x.toll(3, 0), -1);
        Hand.due("toll(-1, 0)", x.toll(-1, 0), -1);
        Hand.due("of(1, 5)", x.of(1, 5), 4);
        Hand.tell(x, "m20");
        Hand.due("toll(1, 20)", x.toll(1, 20), 4);
        Hand.due("toll(1, 21)", x.toll(1, 21), -1);

        Hand.begin(6, "lean");
        Hand.due("lean(1)", x.lean(1), 0);
        Hand.due("lean(2)", x.lean(2), -1);
        Hand.due("lean(-1)", x.lean(-1), -1);
        Hand.due("count(5)", x.count(5), 1);
        Hand.due("lean(0)", x.lean(0), 1);
    }

    private static void waysTaken() {
        Hand.begin(7, "way");
        TollsThatPay x = Hand.land("rab5;tac1;rcb1;rab5;jab*2/9;jab*1w3");
        Hand.due("way(0, 0)", x.way(0, 0), 2);
        Hand.due("row", Hand.row(x), "1 2");
        x.toll(1, 3);
        Hand.due("lean 0: the greatest toll of equals", x.way(0, 0), 2);
        x.lean(1);
        Hand.due("lean 1: the least", x.way(0, 0), 1);
        Hand.due("the first by numbers", Hand.row(x), "0");
        Hand.due("no such goer", x.way(0, 1), -1);
        Hand.due("no such goer", x.way(1, 0), -1);
        Hand.due("row stays", Hand.row(x), "0");
        Hand.due("no such journey", x.way(2, 0), -1);
        Hand.due("no such journey", x.way(-1, 0), -1);
        Hand.due("no such goer", x.way(1, Integer.MIN_VALUE), -1);
        Hand.due("way(1, 3)", x.way(1, 3), 1);

        x = Hand.land("rab3;rac1;rcb2;jab*1;jac*1/1;jad*1;jbd*1/7");
        Hand.due("fewest roads", x.way(0, 0), 1);
        Hand.due("home is a row of none", x.way(1, 0), 0);
        Hand.due("row", Hand.row(x), "");
        x.way(0, 0);
        Hand.due("no way", x.way(2, 0), 0);
        Hand.due("row", Hand.row(x), "");
        Hand.due("home alone", x.way(3, 0), 0);

        x = Hand.land("tab0;jab*1/4");
        x.toll(0, 4);
        Hand.due("home as good, lean 0", x.way(0, 0), 1);
        x.lean(1);
        Hand.due("home as good, lean 1", x.way(0, 0), 0);

        x = Hand.land("rab0;rac0;rcd0+1;rdb0;rab9;jab*1c0-5s4;rcb1;rbc1;jab*1w1s3");
        Hand.due("parallel", x.way(0, 2), 1);
        x = Hand.land("rac0;rcb1;rac0;rcb1;rab9;jab*1c0-5;jab*1w9s1");
        Hand.due("first row", x.way(0, 5), 2);
        Hand.due("row", Hand.row(x), "0 1");
        Hand.due("slow ones know too few", x.way(1, 9), 0);

        Hand.begin(8, "pains");
        x = Hand.land("tab2+3;rab9;jab*3c1-3;jab*1/5;jac*1;jac*1/7");
        Hand.due("worth 1", x.pains(0, 1), 5);
        Hand.due("worth 3", x.pains(0, 3), 9);
        x.toll(0, 2);
        Hand.due("worth 2 and toll", x.pains(0, 2), 9);
        Hand.due("plain", x.pains(1, 0), 4);
        x.toll(0, 6);
        Hand.due("home", x.pains(1, 0), 5);
        Hand.due("no way", x.pains(2, 0), 0);
        Hand.due("home alone", x.pains(3, 0), 7);
        Hand.due("none such", x.pains(0, 0), -1);
        Hand.due("none such", x.pains(0, 4), -1);
        Hand.due("none such", x.pains(4, 0), -1);
    }

    private static void rooms() {
        Hand.begin(9, "room");
        TollsThatPay x = Hand.land("tab0;tbc0;rac5;jac*2;jab*1;jac*1/3;rab2");
        Hand.due("both tolled", x.room(0, 0), 2);
        Hand.due("the ford", x.room(1, 0), 2);
        Hand.due("home", x.room(2, 0), 2);
        x.toll(0, 2);
        Hand.due("asked already", x.room(0, 0), 0);
        Hand.due("none such", x.room(0, 1), -1);
        Hand.due("none such", x.room(3, 0), -1);
        x = Hand.land("tab1;jab*1;rcd1;jcd*1;jef*1;jef*1/9");
        Hand.due("no other way", x.room(0, 0), -2);
        Hand.due("no tolled road", x.room(1, 0), -2);
        Hand.due("no way", x.room(2, 0), -2);
        Hand.due("home", x.room(3, 0), -2);
        x = Hand.land("tab0;tbc0;rbc1;jac*1");
        Hand.due("a way with some of them", x.room(0, 0), 1);
        x = Hand.land("tab0;uab3;jab*1");
        Hand.due("the other house's", x.room(0, 0), 3);
        x = Hand.land("tab0;rbc0;rbc4;jac*1");
        Hand.due("others have all its tolled ones", x.room(0, 0), -2);
    }

    private static void takes() {
        Hand.begin(10, "take");
        TollsThatPay x = Hand.land("tab0;uab1;tcd0;jab*3;jcd*2c0-1;rcd4");
        x.toll(0, 1);
        x.toll(1, 0);
        x.toll(2, 4);
        Hand.due("take(0)", x.take(0), 19);
        Hand.due("take(1)", x.take(1), 0);
        x.lean(1);
        Hand.due("take(0) by lean 1", x.take(0), 0);
        Hand.due("take(2)", x.take(2), -1);
        Hand.due("take(-1)", x.take(-1), -1);

        Hand.begin(11, "suffered");
        Hand.due("suffered()", x.suffered(), 3 + 2 * 4 + 2 * 4);
        x = Hand.land("rab2+1;jab*3c1-2;jab*5/1;jcd*9");
        Hand.due("suffered()", x.suffered(), 3 * 3 + 3 * 4 + 5);

        Hand.begin(12, "by");
        x = Hand.land("rab1;tbc1;rac9+1;jac*4c0-1;jbc*2;jab*1");
        Hand.due("by(0)", x.by(0), 9);
        Hand.due("by(1)", x.by(1), 10);
        Hand.due("by(2)", x.by(2), 0);
        Hand.due("by(3)", x.by(3), -1);
        Hand.due("by(-1)", x.by(-1), -1);

        Hand.begin(13, "ways");
        x = Hand.land("rab1;rab1;rbc1;rac1;jab*1;jac*1/9", "jab*1s1;jad*1;jad*1/1;jab*1s0");
        int[] many = {3, 4, 1, 0, 1, 0};
        for (int j = 0; j < many.length; j++) {
            Hand.due("ways(" + j + ")", x.ways(j), many[j]);
        }
        Hand.due("ways(6)", x.ways(6), -1);
        Hand.due("ways(-1)", x.ways(-1), -1);
    }

    private static void bests() {
        Hand.begin(14, "best");
        TollsThatPay x = Hand.land("tab2;rab5;jab*3;jab*1/4");
        Hand.due("best(0)", x.best(0), 9);
        Hand.due("row", Hand.row(x), "3");
        Hand.due("toll stays", x.of(0, 5), 0);
        Hand.due("best(1)", x.best(1), 0);
        Hand.due("row", Hand.row(x), "");
        Hand.due("best(2)", x.best(2), -1);
        x = Hand.land("tab0;tbc0;rac6;jac*1");
        Hand.due("the first of equal sets", x.best(0), 6);
        Hand.due("row", Hand.row(x), "0 6");
        x = Hand.land("m9;tab0;tab0;tab0;tab0;rab5;jab*1");
        Hand.due("10000 sets", x.best(0), 5);
        Hand.due("row", Hand.row(x), "5 5 5 5");
        Hand.tell(x, "m10");
        Hand.due("14641 sets", x.best(0), 5);
        Hand.tell(x, "m11");
        Hand.due("20736 sets", x.best(0), -1);
        Hand.due("row stays", Hand.row(x), "5 5 5 5");
        Hand.due("the other house", x.best(1), 0);

        Hand.begin(15, "set");
        x = Hand.land("tab0;tbc0;uab1;rac6;jac*1");
        x.toll(2, 3);
        x.best(1);
        Hand.due("set(0)", x.set(0), 6);
        Hand.due("row stays", Hand.row(x), "0");
        Hand.due("tolls", x.of(0, 5) + " " + x.of(1, 5) + " " + x.of(2, 5), "0 6 3");
        Hand.due("take(0)", x.take(0), 6);
        Hand.due("set(2)", x.set(2), -1);
        Hand.due("set(-1)", x.set(-1), -1);
        x = Hand.land("m11;tab0;tab0;tab0;tab0;rab5;jab*1");
        x.toll(0, 7);
        Hand.due("too many", x.set(0), -1);
        Hand.due("toll stays", x.of(0, 5), 7);

        Hand.begin(16, "ties");
        x = Hand.land("tab2;rab5;jab*3");
        Hand.due("ties(0)", x.ties(0), -3);
        x.lean(1);
        Hand.due("ties(0)", x.ties(0), -3);
        Hand.due("lean", x.count(5), 1);
        Hand.due("ties(1)", x.ties(1), 0);
        Hand.due("ties(2)", x.ties(2), -1);

        Hand.begin(17, "bound");
        x = Hand.land("tab0;rab2;rab5;jab*2;jab*3w1;jab*1/1");
        Hand.due("bound(0)", x.bound(0), 2 * 2 + 3 * 2 + 1);
        Hand.due("best(0)", x.best(0), 10);
        Hand.due("bound(1)", x.bound(1), 0);
        Hand.due("bound(3)", x.bound(3), -1);
        x = Hand.land("tab0+1;rab4;jab*1c0-2");
        Hand.due("bound of each alone", x.bound(0), 4 + 3 + 2);
    }

    private static void givens() {
        Hand.begin(18, "given");
        TollsThatPay x = Hand.land("tab0;rab3;tcd0;rcd5;jab*1;jcd*2");
        Hand.due("given(0)", x.given(0), 13);
        Hand.due("row", Hand.row(x), "3 5");
        x.toll(0, 4);
        Hand.due("one stays away", x.given(0), 10);
        Hand.due("row", Hand.row(x), "4 5");
        x.toll(2, 6);
        Hand.due("both", x.given(0), 0);
        Hand.due("row", Hand.row(x), "4 6");
        Hand.due("given(1)", x.given(1), 0);
        Hand.due("row", Hand.row(x), "");
        Hand.due("given(2)", x.given(2), -1);

        Hand.begin(19, "above");
        x = Hand.land("tab2;rab5;jab*3");
        Hand.due("above(0, 9)", x.above(0, 9), 1);
        Hand.due("above(0, 10)", x.above(0, 10), 0);
        Hand.due("above(0, 3)", x.above(0, 3), 3);
        Hand.due("above(0, 0)", x.above(0, 0), 7);
        Hand.due("above(0, MIN)", x.above(0, Integer.MIN_VALUE), 7);
        Hand.due("above(0, MAX)", x.above(0, Integer.MAX_VALUE), 0);
        Hand.due("above(1, 0)", x.above(1, 0), 1);
        Hand.due("above(2, 0)", x.above(2, 0), -1);

        Hand.begin(20, "line");
        x = Hand.land("tab0;tab0;uab0;rab4;jab*2;m5");
        x.toll(1, 3);
        x.toll(2, 4);
        Hand.due("line(0)", x.line(0), 6);
        Hand.due("row", Hand.row(x), "0 2 4 6 6 6");
        x.toll(0, 3);
        Hand.due("line(2)", x.line(2), 4);
        Hand.due("row", Hand.row(x), "0 2 4 0 0 0");
        Hand.due("toll stays", x.of(2, 5), 4);
        Hand.due("line(3)", x.line(3), -1);
        Hand.due("line(4)", x.line(4), -1);
        Hand.due("line(-1)", x.line(-1), -1);
        Hand.due("row stays", Hand.row(x), "0 2 4 0 0 0");

        Hand.begin(21, "bends");
        x.line(0);
        Hand.due("bends(0)", x.bends(0), 1);
        Hand.due("row", Hand.row(x), "3");
        Hand.due("bends(2)", x.bends(2), 2);
        Hand.due("row", Hand.row(x), "2 3");
        Hand.due("bends(3)", x.bends(3), -1);
        Hand.tell(x, "m1");
        Hand.due("no toll between", x.bends(0), 0);
        Hand.due("row", Hand.row(x), "");
        Hand.tell(x, "m0");
        Hand.due("cap 0", x.bends(0), 0);
        Hand.due("line", x.line(0), 0);
        Hand.due("row", Hand.row(x), "0");
        x = Hand.land("m20;tab0;rab20;jab*1");
        Hand.due("line", x.line(0), 20);
        Hand.due("21 numbers", x.count(6), 21);
    }

    private static void climbs() {
        Hand.begin(22, "climb");
        TollsThatPay x = Hand.land("tab0;tbc0;rac6;jac*1;rab3;rbc5");
        Hand.due("climb(0)", x.climb(0), 2);
        Hand.due("row", Hand.row(x), "6 3 3");
        Hand.due("tolls stay", x.of(0, 5) + x.of(1, 5), 0);
        x.toll(1, 4);
        Hand.due("from elsewhere", x.climb(0), 1);
        Hand.due("row", Hand.row(x), "6 2 4");
        Hand.due("climb(1)", x.climb(1), 0);
        Hand.due("row", Hand.row(x), "0");
        Hand.due("climb(2)", x.climb(2), -1);
        x = Hand.land("m0;tab0;jab*1");
        Hand.due("nothing to climb", x.climb(0), 0);
        Hand.due("row", Hand.row(x), "0 0");
        x = Hand.land("m20;tab0;tab0;tab0;tab0;tab0;rab9;jab*1");
        Hand.due("climbs where the sets are too many", x.climb(0), 0);
        Hand.due("row", Hand.row(x), "0 0 0 0 0 0");

        Hand.begin(23, "gap");
        Hand.due("too many sets", x.gap(0), -1);
        x = Hand.land("tab0;tab0;rab4;jab*3");
        Hand.due("two bridges side by side hold each other at 0", x.gap(0), 12);
        x.toll(1, 5);
        Hand.due("one is out of the way", x.gap(0), 0);
        Hand.due("gap(1)", x.gap(1), 0);
        Hand.due("gap(2)", x.gap(2), -1);
    }

    private static void hours() {
        Hand.begin(24, "times");
        TollsThatPay x = Hand.land("tab0;rab3+1;jab*2@0;jab*1w2@1;jcd*9@3");
        Hand.due("best(0)", x.best(0), 9);
        Hand.due("times(0)", x.times(0), 6 + 5);
        Hand.due("row", Hand.row(x), "6 5 0 0");
        Hand.due("times(1)", x.times(1), 0);
        Hand.due("row", Hand.row(x), "0 0 0 0");
        Hand.due("times(2)", x.times(2), -1);
        Hand.due("tolls stay", x.of(0, 5), 0);
        Hand.due("takes stay those of all", x.best(0), 9);
    }

    private static void duels() {
        Hand.begin(25, "answers");
        TollsThatPay x = Hand.land("tab0;uab1;rab6;jab*1");
        Hand.due("answers(10)", x.answers(10), 1);
        Hand.due("row", Hand.row(x), "1 0 1 0");
        Hand.due("answers(2)", x.answers(2), -3);
        Hand.due("answers(3)", x.answers(3), 1);
        x.best(0);
        Hand.due("answers(1)", x.answers(1), -3);
        Hand.due("its row comes too", Hand.row(x), "1 0 1 0");
        Hand.due("answers(0)", x.answers(0), -1);
        Hand.due("answers(61)", x.answers(61), -1);
        Hand.due("row stays", Hand.row(x), "1 0 1 0");
        Hand.due("tolls stay", x.of(0, 5), 0);
        x.toll(0, 1);
        Hand.due("calm at once", x.answers(2), 0);
        Hand.due("too short to know", x.answers(1), -3);
        x = Hand.land("tab0;uab0;rab6;jab*1;m3;tcd0;tcd0;tcd0");
        Hand.due("4 roads of one house", x.answers(5), 0);
        Hand.tell(x, "m11");
        Hand.due("too many sets of house 0", x.answers(5), -1);

        x = Hand.land("tab0;uab2;rab2;jab*2s2;jba*2s1");
        Hand.due("ahead of the ring", x.answers(8), -3);
        Hand.due("row", Hand.row(x), "6 0 3 0");
        Hand.due("the ring", x.answers(9), -2);
        Hand.due("its row comes too", Hand.row(x), "12 0 6 0");
        Hand.due("the ring", x.answers(60), -2);
        Hand.due("row", Hand.row(x), "12 0 6 0");

        Hand.begin(26, "rests");
        x = Hand.land("tab0;uab0;rab7;m4;jab*2s1;jab*4");
        x.best(0);
        Hand.due("no rest", x.rests(), 0);
        Hand.due("row", Hand.row(x), "");
        x = Hand.land("tab0;uab1;rab6;jab*1");
        Hand.due("rests()", x.rests(), 2);
        Hand.due("row", Hand.row(x), "1 0 1 0");
        x = Hand.land("m11;tab0;uab1;tab0;rab6;jab*1");
        Hand.due("1728", x.rests() >= 0 ? 1 : 0, 1);
        Hand.due("numbers", x.count(6), 5);
        Hand.tell(x, "m12");
        Hand.due("2197", x.rests(), -1);
        Hand.due("row stays", x.count(6), 5);
        x = Hand.land("rab1;jab*1");
        Hand.due("no tolled roads", x.rests(), 1);
        Hand.due("row", Hand.row(x), "0 0");
        x = Hand.land("m2;tab0;jab*1;ucd0");
        Hand.due("both alone", x.rests(), 3);
        Hand.due("row", Hand.row(x), "2 0 2 0");
    }

    private static void mayors() {
        Hand.begin(27, "spare");
        TollsThatPay x = Hand.land("tab0;rab3;tcd0;rcd5;jab*1;jcd*2");
        Hand.due("spare(0, 0)", x.spare(0, 0), 13);
        Hand.due("row", Hand.row(x), "0 13");
        Hand.due("spare(0, 1)", x.spare(0, 1), 3);
        Hand.due("row", Hand.row(x), "4 3");
        Hand.due("spare(0, 2)", x.spare(0, 2), 0);
        Hand.due("row", Hand.row(x), "5 0");
        Hand.due("spare(0, 3)", x.spare(0, 3), -1);
        Hand.due("spare(0, -1)", x.spare(0, -1), -1);
        Hand.due("spare(2, 0)", x.spare(2, 0), -1);
        Hand.due("spare(1, 0)", x.spare(1, 0), 0);
        Hand.due("row", Hand.row(x), "0 0");
        Hand.due("spare(1, 1)", x.spare(1, 1), -1);
        x = Hand.land("tab0;tbc0;rac5;jac*2");
        Hand.due("of equal ones the least set", x.spare(0, 1), 10);
        Hand.due("row", Hand.row(x), "1 10");

        Hand.begin(28, "ceiling");
        x = Hand.land("tab2;rab5;jab*3");
        Hand.due("ceiling(0)", x.ceiling(0), 6);
        Hand.due("row", Hand.row(x), "0 0");
        x = Hand.land("tab2;rab5;jab*3;m0");
        Hand.due("cap 0", x.ceiling(0), 6);
        x = Hand.land("tab2;jcd*3/4");
        Hand.due("of equal ones the greatest", x.ceiling(0), 12);
        Hand.due("row", Hand.row(x), "6 0");
        x = Hand.land("uab2;tcd1;rab4;jab*1");
        x.toll(0, 6);
        Hand.due("the other's toll stays", x.ceiling(0), 4);
        Hand.due("row", Hand.row(x), "6 0");
        Hand.due("ceiling(2)", x.ceiling(2), -1);
    }

    private static void builders() {
        Hand.begin(29, "without");
        TollsThatPay x = Hand.land("tab2;rab5;rab6;jab*3");
        Hand.due("without(0, 1)", x.without(0, 1), 3);
        Hand.due("without(0, 2)", x.without(0, 2), 0);
        Hand.due("without(0, 0)", x.without(0, 0), -9);
        Hand.due("without(0, 3)", x.without(0, 3), -1);
        Hand.due("without(0, -1)", x.without(0, -1), -1);
        Hand.due("without(2, 0)", x.without(2, 0), -1);
        Hand.due("without(1, 0)", x.without(1, 0), 0);
        Hand.due("all is there still", x.best(0), 9);
        Hand.due("ways", x.ways(0), 3);
        x = Hand.land("rab1;tab2;rab5;jab*1s2");
        Hand.due("slow ones know no more", x.without(0, 0), 6);
        x = Hand.land("tab0;uab1;rab6;jab*1");
        x.toll(1, 4);
        Hand.due("the other house's road", x.without(0, 1), 1);

        Hand.begin(30, "ford");
        x = Hand.land("tab2;rab9;jab*3;jcd*1s2/5;ucd0");
        Hand.due("best(0)", x.best(0), 18);
        Hand.due("ford(0, 0, 1, 5)", x.ford(0, 0, 1, 5), -9);
        Hand.due("ford(0, 1, 0, 5)", x.ford(0, 1, 0, 5), -9);
        Hand.due("ford(0, 0, 1, 99)", x.ford(0, 0, 1, 99), 0);
        Hand.due("a way to the bridge", Hand.land("tab2;rcd9;jca*1").ford(0, 1, 2, 0), 6);
        Hand.due("a slow one does not know it", Hand.land("tab2;rab5;jab*3s2").ford(0, 0, 1, 0), 0);
        Hand.due("a slow one knows it", Hand.land("tab2;rab5;jab*3s3").ford(0, 0, 1, 0), -9);
        Hand.due("ford(2, ..)", x.ford(2, 0, 1, 5), -1);
        Hand.due("unlike", x.ford(0, 1, 1, 5), -1);
        Hand.due("corner 8", x.ford(0, 0, 8, 5), -1);
        Hand.due("corner -1", x.ford(0, -1, 1, 5), -1);
        Hand.due("cost 100", x.ford(0, 0, 1, 100), -1);
        Hand.due("cost -1", x.ford(0, 0, 1, -1), -1);
        Hand.due("roads", x.count(0), 3);
        x = Hand.land(Hand.times("rab9", 11), "tab2;jab*3;rab9");
        Hand.due("13 roads", x.ford(0, 0, 1, 5), -9);
        Hand.tell(x, "rcd1");
        Hand.due("14 roads", x.ford(0, 0, 1, 5), -1);
        x = Hand.land("m11;tab0;tab0;tab0;tab0;rab5;jab*1");
        Hand.due("too many sets", x.ford(0, 0, 1, 5), -1);
        Hand.due("too many sets", x.without(0, 4), -1);
    }

    private static void chances() {
        Hand.begin(31, "weight");
        TollsThatPay x = Hand.land("tab1+0;rab2+3;jab*1c0-2");
        Hand.due("weight(0, 99)", x.weight(0, 99), 1);
        Hand.due("weight(0, 1)", x.weight(0, 1), 99);
        Hand.due("weight(9, 0)", x.weight(9, 0), 1);
        Hand.due("weight(10, 0)", x.weight(10, 0), -1);
        Hand.due("weight(-1, 0)", x.weight(-1, 0), -1);
        Hand.due("weight(1, 100)", x.weight(1, 100), -1);
        Hand.due("weight(1, -1)", x.weight(1, -1), -1);

        Hand.begin(32, "mean");
        Hand.due("mean(0)", x.mean(0), 8);
        Hand.due("row", Hand.row(x), "4");
        x.weight(2, 3);
        Hand.due("mean(0)", x.mean(0), 18);
        Hand.due("row", Hand.row(x), "6");
        Hand.due("mean(1)", x.mean(1), 0);
        Hand.due("mean(2)", x.mean(2), -1);
        x = Hand.land("tab0;rab3;jab*2");
        Hand.due("plain ones go in all worlds", x.mean(0), 60);
        x = Hand.land("tab0;rab3;jab*2w4;jab*1c7-7");
        Hand.due("one alone of a crowd goes in its own", x.mean(0), 63);
        for (int w = 0; w < 10; w++) {
            x.weight(w, 0);
        }
        Hand.due("no weights", x.mean(0), 0);
        Hand.due("row", Hand.row(x), "0");

        Hand.begin(33, "safe");
        x.way(0, 4);
        x.toll(0, 1);
        x.line(0);
        Hand.due("no weights", x.safe(0), -1);
        Hand.due("row stays", Hand.row(x), "0 3 6 9 0 0 0");
        x.toll(0, 0);
        x.weight(7, 1);
        Hand.due("world 7", x.safe(0), 9);
        x.weight(6, 1);
        Hand.due("world 6 too", x.safe(0), 6);
        Hand.due("row", Hand.row(x), "3");
        Hand.due("safe(2)", x.safe(2), -1);
        x = Hand.land("tab1+0;rab2+3;jab*1c0-2");
        Hand.due("a world without goers", x.safe(0), 0);
        Hand.due("row", Hand.row(x), "0");

        Hand.begin(34, "learn");
        Hand.due("learn(0, 1)", x.learn(0, 1), 7);
        Hand.due("learn(0, 0)", x.learn(0, 0), 1016);
        Hand.due("learn(1, 0)", x.learn(1, 0), 1023);
        x.toll(0, 3);
        Hand.due("learn(0, 1)", x.learn(0, 1), 6);
        Hand.due("learn(1, 1)", x.learn(1, 1), 1);
        x.weight(0, 0);
        Hand.due("of no weight too", x.learn(1, 1), 1);
        Hand.due("learn(2, 0)", x.learn(2, 0), -1);
        Hand.due("learn(-1, 0)", x.learn(-1, 0), -1);
        Hand.due("learn(0, -1)", x.learn(0, -1), -1);
        Hand.tell(x, "jab*5w2");
        Hand.due("those who are known", x.learn(0, 6), 6);
        Hand.due("those who are known", x.learn(0, 5), 1017);
    }

    private static void parts() {
        Hand.begin(35, "last");
        TollsThatPay x = Hand.land("tab0;tbc0;rac5;jac*2;rab3;ucd0");
        Hand.due("best(0)", x.best(0), 10);
        Hand.due("last(0)", x.last(0), 0);
        Hand.due("last(1)", x.last(1), 4);
        Hand.due("last(2)", x.last(2), -1);
        Hand.due("last(4)", x.last(4), 0);
        Hand.due("last(5)", x.last(5), -1);
        Hand.due("last(-1)", x.last(-1), -1);
        x.toll(0, 2);
        Hand.due("others are asked their best", x.last(1), 4);

        Hand.begin(36, "fair");
        Hand.due("fair(0)", x.fair(0), 3);
        Hand.due("row", Hand.row(x), "3 1");
        Hand.due("fair(1)", x.fair(1), 7);
        Hand.due("row", Hand.row(x), "7 1");
        Hand.due("fair(4)", x.fair(4), 0);
        Hand.due("row", Hand.row(x), "0 1");
        Hand.due("fair(2)", x.fair(2), -1);
        Hand.due("fair(5)", x.fair(5), -1);
        Hand.due("row stays", Hand.row(x), "0 1");
        x = Hand.land("tab0;tab0;rab5;jab*1");
        Hand.due("two that are nothing alone", x.fair(1), 2);
        Hand.due("row", Hand.row(x), "5 2");
        x = Hand.land("tab0;tab0;tbc0;rac5;jac*1");
        Hand.due("one of two side by side", x.fair(0), 0);
        Hand.due("row", Hand.row(x), "5 6");
        Hand.due("the one behind them", x.fair(2), 3);
        Hand.due("row", Hand.row(x), "10 3");
        x = Hand.land("m11;tab0;tab0;tab0;tab0;rab5;jab*1");
        Hand.due("too many sets", x.last(0), -1);
        Hand.due("too many sets", x.fair(0), -1);
    }

    private static void numbers() {
        Hand.begin(37, "count");
        TollsThatPay x = Hand.land("tab2;uab5;rcd1;jab*30c2-6;jab*9;m9");
        x.lean(1);
        x.best(0);
        x.sign(0);
        int[] due = {3, 2, 2, 6, 9, 1, 1, 4};
        for (int what = 0; what < due.length; what++) {
            Hand.due("count(" + what + ")", x.count(what), due[what]);
        }
        Hand.due("count(8)", x.count(8), -1);
        Hand.due("count(-1)", x.count(-1), -1);

        Hand.begin(38, "of");
        x = Hand.land("thg98+7;uab5;rcd1");
        x.toll(0, 3);
        Hand.due("of 0", Hand.of(x, 0), "7 6 98 7 0 3");
        Hand.due("of 1", Hand.of(x, 1), "0 1 5 0 1 0");
        Hand.due("of 2", Hand.of(x, 2), "2 3 1 0 -1 0");
        int[][] bad = {{3, 0}, {-1, 0}, {0, 6}, {0, -1}, {Integer.MAX_VALUE, Integer.MIN_VALUE}};
        for (int[] b : bad) {
            Hand.due("of(" + b[0] + ", " + b[1] + ") throws", Hand.throwsOf(x, b[0], b[1]) ? 1 : 0, 1);
        }

        Hand.begin(39, "row");
        x = Hand.land("tab2;rab5;jab*3");
        x.line(0);
        Hand.due("row(0)", x.row(0), 0);
        Hand.due("row(3)", x.row(3), 9);
        Hand.due("row(6)", x.row(6), 0);
        Hand.due("row(7) throws", Hand.throwsRow(x, 7) ? 1 : 0, 1);
        Hand.due("row(-1) throws", Hand.throwsRow(x, -1) ? 1 : 0, 1);
        x.way(0, 0);
        Hand.due("row(1) throws", Hand.throwsRow(x, 1) ? 1 : 0, 1);
    }

    public static void main(String[] args) {
        newObject();
        signs();
        texts();
        longTexts();
        tolls();
        waysTaken();
        rooms();
        takes();
        bests();
        givens();
        climbs();
        hours();
        duels();
        mayors();
        builders();
        chances();
        parts();
        numbers();
        Hand.finish(1, 39);
    }
}
