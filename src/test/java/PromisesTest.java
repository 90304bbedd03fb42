import java.util.NoSuchElementException;

/** Each promise by hand: ordinary calls, the edges that the document names, and wrong ones. */
public final class PromisesTest {
    private static int wrong = 0;
    private static String promise = "";

    private static void due(String call, long got, long want) {
        if (got != want) {
            wrong++;
            System.out.println(promise + ": " + call + " answered " + got + ", due is " + want);
        }
    }

    private static void due(String call, String got, String want) {
        if (!got.equals(want)) {
            wrong++;
            System.out.println(promise + ": " + call + " answered " + got + ", due is " + want);
        }
    }

    private static void spell(TollsThatPay x, String text) {
        for (int i = 0; i < text.length(); i += 4) {
            int v = 0;
            for (int k = 0; k < 4; k++) {
                v = v << 8 | (i + k < text.length() ? text.charAt(i + k) : '?');
            }
            x.sign(v);
        }
        x.end(text.length());
    }

    private static int tell(TollsThatPay x, String text) {
        spell(x, text);
        return x.tell();
    }

    private static TollsThatPay land(String... texts) {
        TollsThatPay x = new TollsThatPay();
        for (String text : texts) {
            if (tell(x, text) < 0) {
                wrong++;
                System.out.println(promise + ": " + text + " was not told");
            }
        }
        return x;
    }

    private static String row(TollsThatPay x) {
        StringBuilder s = new StringBuilder();
        for (int i = 0; i < x.count(6); i++) {
            s.append(i > 0 ? " " : "").append(x.row(i));
        }
        return s.toString();
    }

    private static String of(TollsThatPay x, int road) {
        StringBuilder s = new StringBuilder();
        for (int what = 0; what < 6; what++) {
            s.append(what > 0 ? " " : "").append(x.of(road, what));
        }
        return s.toString();
    }

    private static boolean throwsOf(TollsThatPay x, int road, int what) {
        try {
            x.of(road, what);
            return false;
        } catch (NoSuchElementException e) {
            return true;
        }
    }

    private static boolean throwsRow(TollsThatPay x, int i) {
        try {
            x.row(i);
            return false;
        } catch (NoSuchElementException e) {
            return true;
        }
    }

    private static void newObject() {
        promise = "1 a new object";
        TollsThatPay x = new TollsThatPay();
        int[] counts = {0, 0, 0, 0, 6, 0, 0, 0};
        for (int what = 0; what < counts.length; what++) {
            due("count(" + what + ")", x.count(what), counts[what]);
        }
        due("suffered()", x.suffered(), 0);
        due("take(1)", x.take(1), 0);
        due("best(0)", x.best(0), 0);
        due("rests()", x.rests(), 1);
        due("row", row(x), "0 0");
        due("answers(2)", x.answers(2), 0);
        due("answers(1)", x.answers(1), -3);
        due("weight(9, 4)", x.weight(9, 4), 1);
        due("NONE", TollsThatPay.NONE, -1);
        due("of throws", throwsOf(x, 0, 0) ? 1 : 0, 1);
    }

    private static void signs() {
        promise = "2 sign";
        TollsThatPay x = new TollsThatPay();
        for (int i = 1; i <= 25; i++) {
            due("sign " + i, x.sign(0x72616231), 4 * i);
        }
        due("sign 26", x.sign(0), -1);
        due("count(7)", x.count(7), 100);
        due("end(97)", x.end(97) ? 1 : 0, 1);
        due("sign to 101", x.sign(0), -1);
        due("end(96)", x.end(96) ? 1 : 0, 1);
        due("sign to 100", x.sign(0), 100);
        x.end(0);
        x.sign(0x72616237);
        due("tell", x.tell(), 1);
        due("cost", x.of(0, 2), 7);
        due("signs above 127", x.sign(-1), 4);
        due("tell", x.tell(), -1);
        x.sign(0x726162FF);
        due("tell", x.tell(), -4);

        promise = "3 end";
        due("end(0)", x.end(0) ? 1 : 0, 1);
        due("end(1)", x.end(1) ? 1 : 0, 0);
        x.sign(0x72616231);
        due("end(-1)", x.end(-1) ? 1 : 0, 0);
        due("end(MIN)", x.end(Integer.MIN_VALUE) ? 1 : 0, 0);
        due("end(5)", x.end(5) ? 1 : 0, 0);
        due("count(7)", x.count(7), 4);
        due("end(4)", x.end(4) ? 1 : 0, 1);
        due("end(3)", x.end(3) ? 1 : 0, 1);
        due("count(7)", x.count(7), 3);
        due("end(4)", x.end(4) ? 1 : 0, 0);
    }

    private static void texts() {
        promise = "4 tell";
        String[] bad = {"", "x", "raa1", "rai1", "rba", "r", "rab", "rab+", "rab100", "rab1000", "rab0990", "rab1;", "rab1+", "rab1+10",
            "rab1,", "jab1", "jab*", "jab*0", "jab*00", "jab*100", "jab*000", "jab*1c3-2", "jab*1c3-9", "jab*1c", "jab*1c3", "jab*1c3-",
            "jab*1w2c0-1", "jab*1s1w1", "jab*1@4", "jab*1@0/5", "jab*1/1000", "jab*1s", "m21", "m210", "m", "m;", ";", "jab*1w10",
            "rab1;;rab1", "tAB1", "jaa*1", "jab*1/1s1", "jab*1c9-10", "rab1+5+5"};
        int[] at = {-1, -1, -3, -3, -4, -2, -4, -4, -6, -6, -7, -6, -6, -7,
            -5, -4, -5, -5, -6, -7, -7, -9, -9, -7, -8, -9,
            -8, -8, -7, -8, -10, -7, -3, -4, -2, -2, -1, -8,
            -6, -2, -3, -8, -9, -7};
        for (int i = 0; i < bad.length; i++) {
            TollsThatPay x = new TollsThatPay();
            due("tell of " + bad[i], tell(x, bad[i]), at[i]);
            due("roads", x.count(0) + x.count(2), 0);
            due("signs left", x.count(7), 0);
        }
        String[] good = {"rab1", "rab099", "tab99+9", "uhg0", "jab*1", "jab*99c4-9s999/999@3", "jab*1c3-8", "jab*01c9-9", "jab*1w0s0/0@0",
            "jba*1/5", "jab*1@2", "m0", "m20", "m007", "m6;m7;rab1"};
        for (int i = 0; i < good.length; i++) {
            due("tell of " + good[i], tell(new TollsThatPay(), good[i]), good[i].startsWith("m6") ? 3 : 1);
        }
        TollsThatPay x = land("tab3+4;m2");
        due("tell", tell(x, "rcd1;m9;jab*1;rab"), -18);
        due("roads", x.count(0), 1);
        due("cap", x.count(4), 2);
        due("journeys", x.count(2), 0);
        due("of 0", of(x, 0), "0 1 3 4 0 0");
        x.toll(0, 2);
        due("m1", tell(x, "m1"), 1);
        due("cut toll", x.of(0, 5), 1);
        due("m5", tell(x, "m5"), 1);
        due("toll stays", x.of(0, 5), 1);
    }

    private static String times(String item, int n) {
        StringBuilder s = new StringBuilder();
        for (int i = 0; i < n; i++) {
            s.append(i > 0 ? ";" : "").append(item);
        }
        return s.toString();
    }

    private static void longTexts() {
        promise = "4 tell, long texts and limits";
        String eleven = times("rab1", 11);
        due("59 signs", tell(new TollsThatPay(), times("rab1", 12)), 12);
        due("60 signs", tell(new TollsThatPay(), eleven + ";rab10"), 12);
        due("60 signs, too early an end", tell(new TollsThatPay(), eleven + ";rab1;"), -61);
        due("61 signs", tell(new TollsThatPay(), eleven + ";rab100"), -61);
        due("61 signs, could go on", tell(new TollsThatPay(), eleven + ";rab1;m"), -61);
        due("64 signs", tell(new TollsThatPay(), eleven + ";rab1;rab1"), -61);
        due("a number that ends at 60", tell(new TollsThatPay(), eleven + ";jab*05"), -60);
        due("60 signs, wrong at the end", tell(new TollsThatPay(), eleven + ";jab*0"), -60);
        due("100 signs, wrong in the middle", tell(new TollsThatPay(), times("rab1", 9) + ";q" + times("rab1", 10)), -46);

        TollsThatPay x = land(times("rab1", 12), times("rab1", 2));
        due("14 roads", x.count(0), 14);
        due("15 roads", tell(x, "m3;rab1"), -100);
        due("cap", x.count(4), 6);
        due("more journeys", tell(x, "jab*1"), 1);
        x = land(times("tab1", 3) + ";uab1;uab1");
        due("6 tolled", tell(x, "tab1"), -101);
        due("roads first", tell(x, eleven + ";tab1"), -100);
        due("tolled ahead of journeys", tell(x, times("jab*1", 9) + ";tab1"), -101);
        due("roads of none", tell(x, "rab1"), 1);
        x = land(times("jab*1", 8));
        due("9 journeys", tell(x, "jab*1"), -102);
        due("journeys", x.count(2), 8);
        due("9 at once", tell(new TollsThatPay(), times("jab*1", 9)), -102);

        x = land("rab1;rab1;rab1;rbc1;rbc1;rbc1;rcd1;rcd1;rcd1;rde1;rde1;rde1", "ref1;ref1;jaf*1/9");
        due("ways, home too", x.ways(0), 163);
    }

    private static void tolls() {
        promise = "5 toll";
        TollsThatPay x = land("rab1;tab2;uab3;jab*1");
        due("toll(1, 6)", x.toll(1, 6), 0);
        due("toll(1, 4)", x.toll(1, 4), 6);
        due("toll(2, 1)", x.toll(2, 1), 0);
        due("toll(1, 7)", x.toll(1, 7), -1);
        due("toll(1, -1)", x.toll(1, -1), -1);
        due("toll(0, 0)", x.toll(0, 0), -1);
        due("toll(3, 0)", x.toll(3, 0), -1);
        due("toll(-1, 0)", x.toll(-1, 0), -1);
        due("of(1, 5)", x.of(1, 5), 4);
        tell(x, "m20");
        due("toll(1, 20)", x.toll(1, 20), 4);
        due("toll(1, 21)", x.toll(1, 21), -1);

        promise = "6 lean";
        due("lean(1)", x.lean(1), 0);
        due("lean(2)", x.lean(2), -1);
        due("lean(-1)", x.lean(-1), -1);
        due("count(5)", x.count(5), 1);
        due("lean(0)", x.lean(0), 1);
    }

    private static void waysTaken() {
        promise = "7 way";
        TollsThatPay x = land("rab5;tac1;rcb1;rab5;jab*2/9;jab*1w3");
        due("way(0, 0)", x.way(0, 0), 2);
        due("row", row(x), "1 2");
        x.toll(1, 3);
        due("lean 0: the greatest toll of equals", x.way(0, 0), 2);
        x.lean(1);
        due("lean 1: the least", x.way(0, 0), 1);
        due("the first by numbers", row(x), "0");
        due("no such goer", x.way(0, 1), -1);
        due("no such goer", x.way(1, 0), -1);
        due("row stays", row(x), "0");
        due("no such journey", x.way(2, 0), -1);
        due("no such journey", x.way(-1, 0), -1);
        due("no such goer", x.way(1, Integer.MIN_VALUE), -1);
        due("way(1, 3)", x.way(1, 3), 1);

        x = land("rab3;rac1;rcb2;jab*1;jac*1/1;jad*1;jbd*1/7");
        due("fewest roads", x.way(0, 0), 1);
        due("home is a row of none", x.way(1, 0), 0);
        due("row", row(x), "");
        x.way(0, 0);
        due("no way", x.way(2, 0), 0);
        due("row", row(x), "");
        due("home alone", x.way(3, 0), 0);

        x = land("tab0;jab*1/4");
        x.toll(0, 4);
        due("home as good, lean 0", x.way(0, 0), 1);
        x.lean(1);
        due("home as good, lean 1", x.way(0, 0), 0);

        x = land("rab0;rac0;rcd0+1;rdb0;rab9;jab*1c0-5s4;rcb1;rbc1;jab*1w1s3");
        due("parallel", x.way(0, 2), 1);
        x = land("rac0;rcb1;rac0;rcb1;rab9;jab*1c0-5;jab*1w9s1");
        due("first row", x.way(0, 5), 2);
        due("row", row(x), "0 1");
        due("slow ones know too few", x.way(1, 9), 0);

        promise = "8 pains";
        x = land("tab2+3;rab9;jab*3c1-3;jab*1/5;jac*1;jac*1/7");
        due("worth 1", x.pains(0, 1), 5);
        due("worth 3", x.pains(0, 3), 9);
        x.toll(0, 2);
        due("worth 2 and toll", x.pains(0, 2), 9);
        due("plain", x.pains(1, 0), 4);
        x.toll(0, 6);
        due("home", x.pains(1, 0), 5);
        due("no way", x.pains(2, 0), 0);
        due("home alone", x.pains(3, 0), 7);
        due("none such", x.pains(0, 0), -1);
        due("none such", x.pains(0, 4), -1);
        due("none such", x.pains(4, 0), -1);
    }

    private static void rooms() {
        promise = "9 room";
        TollsThatPay x = land("tab0;tbc0;rac5;jac*2;jab*1;jac*1/3;rab2");
        due("both tolled", x.room(0, 0), 2);
        due("the ford", x.room(1, 0), 2);
        due("home", x.room(2, 0), 2);
        x.toll(0, 2);
        due("asked already", x.room(0, 0), 0);
        due("none such", x.room(0, 1), -1);
        due("none such", x.room(3, 0), -1);
        x = land("tab1;jab*1;rcd1;jcd*1;jef*1;jef*1/9");
        due("no other way", x.room(0, 0), -2);
        due("no tolled road", x.room(1, 0), -2);
        due("no way", x.room(2, 0), -2);
        due("home", x.room(3, 0), -2);
        x = land("tab0;tbc0;rbc1;jac*1");
        due("a way with some of them", x.room(0, 0), 1);
        x = land("tab0;uab3;jab*1");
        due("the other house's", x.room(0, 0), 3);
        x = land("tab0;rbc0;rbc4;jac*1");
        due("others have all its tolled ones", x.room(0, 0), -2);
    }

    private static void takes() {
        promise = "10 take";
        TollsThatPay x = land("tab0;uab1;tcd0;jab*3;jcd*2c0-1;rcd4");
        x.toll(0, 1);
        x.toll(1, 0);
        x.toll(2, 4);
        due("take(0)", x.take(0), 19);
        due("take(1)", x.take(1), 0);
        x.lean(1);
        due("take(0) by lean 1", x.take(0), 0);
        due("take(2)", x.take(2), -1);
        due("take(-1)", x.take(-1), -1);

        promise = "11 suffered";
        due("suffered()", x.suffered(), 3 + 2 * 4 + 2 * 4);
        x = land("rab2+1;jab*3c1-2;jab*5/1;jcd*9");
        due("suffered()", x.suffered(), 3 * 3 + 3 * 4 + 5);

        promise = "12 by";
        x = land("rab1;tbc1;rac9+1;jac*4c0-1;jbc*2;jab*1");
        due("by(0)", x.by(0), 9);
        due("by(1)", x.by(1), 10);
        due("by(2)", x.by(2), 0);
        due("by(3)", x.by(3), -1);
        due("by(-1)", x.by(-1), -1);

        promise = "13 ways";
        x = land("rab1;rab1;rbc1;rac1;jab*1;jac*1/9", "jab*1s1;jad*1;jad*1/1;jab*1s0");
        int[] many = {3, 4, 1, 0, 1, 0};
        for (int j = 0; j < many.length; j++) {
            due("ways(" + j + ")", x.ways(j), many[j]);
        }
        due("ways(6)", x.ways(6), -1);
        due("ways(-1)", x.ways(-1), -1);
    }

    private static void bests() {
        promise = "14 best";
        TollsThatPay x = land("tab2;rab5;jab*3;jab*1/4");
        due("best(0)", x.best(0), 9);
        due("row", row(x), "3");
        due("toll stays", x.of(0, 5), 0);
        due("best(1)", x.best(1), 0);
        due("row", row(x), "");
        due("best(2)", x.best(2), -1);
        x = land("tab0;tbc0;rac6;jac*1");
        due("the first of equal sets", x.best(0), 6);
        due("row", row(x), "0 6");
        x = land("m9;tab0;tab0;tab0;tab0;rab5;jab*1");
        due("10000 sets", x.best(0), 5);
        due("row", row(x), "5 5 5 5");
        tell(x, "m10");
        due("14641 sets", x.best(0), 5);
        tell(x, "m11");
        due("20736 sets", x.best(0), -1);
        due("row stays", row(x), "5 5 5 5");
        due("the other house", x.best(1), 0);

        promise = "15 set";
        x = land("tab0;tbc0;uab1;rac6;jac*1");
        x.toll(2, 3);
        x.best(1);
        due("set(0)", x.set(0), 6);
        due("row stays", row(x), "0");
        due("tolls", x.of(0, 5) + " " + x.of(1, 5) + " " + x.of(2, 5), "0 6 3");
        due("take(0)", x.take(0), 6);
        due("set(2)", x.set(2), -1);
        due("set(-1)", x.set(-1), -1);
        x = land("m11;tab0;tab0;tab0;tab0;rab5;jab*1");
        x.toll(0, 7);
        due("too many", x.set(0), -1);
        due("toll stays", x.of(0, 5), 7);

        promise = "16 ties";
        x = land("tab2;rab5;jab*3");
        due("ties(0)", x.ties(0), -3);
        x.lean(1);
        due("ties(0)", x.ties(0), -3);
        due("lean", x.count(5), 1);
        due("ties(1)", x.ties(1), 0);
        due("ties(2)", x.ties(2), -1);

        promise = "17 bound";
        x = land("tab0;rab2;rab5;jab*2;jab*3w1;jab*1/1");
        due("bound(0)", x.bound(0), 2 * 2 + 3 * 2 + 1);
        due("best(0)", x.best(0), 10);
        due("bound(1)", x.bound(1), 0);
        due("bound(3)", x.bound(3), -1);
        x = land("tab0+1;rab4;jab*1c0-2");
        due("bound of each alone", x.bound(0), 4 + 3 + 2);
    }

    private static void givens() {
        promise = "18 given";
        TollsThatPay x = land("tab0;rab3;tcd0;rcd5;jab*1;jcd*2");
        due("given(0)", x.given(0), 13);
        due("row", row(x), "3 5");
        x.toll(0, 4);
        due("one stays away", x.given(0), 10);
        due("row", row(x), "4 5");
        x.toll(2, 6);
        due("both", x.given(0), 0);
        due("row", row(x), "4 6");
        due("given(1)", x.given(1), 0);
        due("row", row(x), "");
        due("given(2)", x.given(2), -1);

        promise = "19 above";
        x = land("tab2;rab5;jab*3");
        due("above(0, 9)", x.above(0, 9), 1);
        due("above(0, 10)", x.above(0, 10), 0);
        due("above(0, 3)", x.above(0, 3), 3);
        due("above(0, 0)", x.above(0, 0), 7);
        due("above(0, MIN)", x.above(0, Integer.MIN_VALUE), 7);
        due("above(0, MAX)", x.above(0, Integer.MAX_VALUE), 0);
        due("above(1, 0)", x.above(1, 0), 1);
        due("above(2, 0)", x.above(2, 0), -1);

        promise = "20 line";
        x = land("tab0;tab0;uab0;rab4;jab*2;m5");
        x.toll(1, 3);
        x.toll(2, 4);
        due("line(0)", x.line(0), 6);
        due("row", row(x), "0 2 4 6 6 6");
        x.toll(0, 3);
        due("line(2)", x.line(2), 4);
        due("row", row(x), "0 2 4 0 0 0");
        due("toll stays", x.of(2, 5), 4);
        due("line(3)", x.line(3), -1);
        due("line(4)", x.line(4), -1);
        due("line(-1)", x.line(-1), -1);
        due("row stays", row(x), "0 2 4 0 0 0");

        promise = "21 bends";
        x.line(0);
        due("bends(0)", x.bends(0), 1);
        due("row", row(x), "3");
        due("bends(2)", x.bends(2), 2);
        due("row", row(x), "2 3");
        due("bends(3)", x.bends(3), -1);
        tell(x, "m1");
        due("no toll between", x.bends(0), 0);
        due("row", row(x), "");
        tell(x, "m0");
        due("cap 0", x.bends(0), 0);
        due("line", x.line(0), 0);
        due("row", row(x), "0");
        x = land("m20;tab0;rab20;jab*1");
        due("line", x.line(0), 20);
        due("21 numbers", x.count(6), 21);
    }

    private static void climbs() {
        promise = "22 climb";
        TollsThatPay x = land("tab0;tbc0;rac6;jac*1;rab3;rbc5");
        due("climb(0)", x.climb(0), 2);
        due("row", row(x), "6 3 3");
        due("tolls stay", x.of(0, 5) + x.of(1, 5), 0);
        x.toll(1, 4);
        due("from elsewhere", x.climb(0), 1);
        due("row", row(x), "6 2 4");
        due("climb(1)", x.climb(1), 0);
        due("row", row(x), "0");
        due("climb(2)", x.climb(2), -1);
        x = land("m0;tab0;jab*1");
        due("nothing to climb", x.climb(0), 0);
        due("row", row(x), "0 0");
        x = land("m20;tab0;tab0;tab0;tab0;tab0;rab9;jab*1");
        due("climbs where the sets are too many", x.climb(0), 0);
        due("row", row(x), "0 0 0 0 0 0");

        promise = "23 gap";
        due("too many sets", x.gap(0), -1);
        x = land("tab0;tab0;rab4;jab*3");
        due("two bridges side by side hold each other at 0", x.gap(0), 12);
        x.toll(1, 5);
        due("one is out of the way", x.gap(0), 0);
        due("gap(1)", x.gap(1), 0);
        due("gap(2)", x.gap(2), -1);
    }

    private static void hours() {
        promise = "24 times";
        TollsThatPay x = land("tab0;rab3+1;jab*2@0;jab*1w2@1;jcd*9@3");
        due("best(0)", x.best(0), 9);
        due("times(0)", x.times(0), 6 + 5);
        due("row", row(x), "6 5 0 0");
        due("times(1)", x.times(1), 0);
        due("row", row(x), "0 0 0 0");
        due("times(2)", x.times(2), -1);
        due("tolls stay", x.of(0, 5), 0);
        due("takes stay those of all", x.best(0), 9);
    }

    private static void duels() {
        promise = "25 answers";
        TollsThatPay x = land("tab0;uab1;rab6;jab*1");
        due("answers(10)", x.answers(10), 1);
        due("row", row(x), "1 0 1 0");
        due("answers(2)", x.answers(2), -3);
        due("answers(3)", x.answers(3), 1);
        x.best(0);
        due("answers(1)", x.answers(1), -3);
        due("its row comes too", row(x), "1 0 1 0");
        due("answers(0)", x.answers(0), -1);
        due("answers(61)", x.answers(61), -1);
        due("row stays", row(x), "1 0 1 0");
        due("tolls stay", x.of(0, 5), 0);
        x.toll(0, 1);
        due("calm at once", x.answers(2), 0);
        due("too short to know", x.answers(1), -3);
        x = land("tab0;uab0;rab6;jab*1;m3;tcd0;tcd0;tcd0");
        due("4 roads of one house", x.answers(5), 0);
        tell(x, "m11");
        due("too many sets of house 0", x.answers(5), -1);

        x = land("tab0;uab2;rab2;jab*2s2;jba*2s1");
        due("ahead of the ring", x.answers(8), -3);
        due("row", row(x), "6 0 3 0");
        due("the ring", x.answers(9), -2);
        due("its row comes too", row(x), "12 0 6 0");
        due("the ring", x.answers(60), -2);
        due("row", row(x), "12 0 6 0");

        promise = "26 rests";
        x = land("tab0;uab0;rab7;m4;jab*2s1;jab*4");
        x.best(0);
        due("no rest", x.rests(), 0);
        due("row", row(x), "");
        x = land("tab0;uab1;rab6;jab*1");
        due("rests()", x.rests(), 2);
        due("row", row(x), "1 0 1 0");
        x = land("m11;tab0;uab1;tab0;rab6;jab*1");
        due("1728", x.rests() >= 0 ? 1 : 0, 1);
        due("numbers", x.count(6), 5);
        tell(x, "m12");
        due("2197", x.rests(), -1);
        due("row stays", x.count(6), 5);
        x = land("rab1;jab*1");
        due("no tolled roads", x.rests(), 1);
        due("row", row(x), "0 0");
        x = land("m2;tab0;jab*1;ucd0");
        due("both alone", x.rests(), 3);
        due("row", row(x), "2 0 2 0");
    }

    private static void mayors() {
        promise = "27 spare";
        TollsThatPay x = land("tab0;rab3;tcd0;rcd5;jab*1;jcd*2");
        due("spare(0, 0)", x.spare(0, 0), 13);
        due("row", row(x), "0 13");
        due("spare(0, 1)", x.spare(0, 1), 3);
        due("row", row(x), "4 3");
        due("spare(0, 2)", x.spare(0, 2), 0);
        due("row", row(x), "5 0");
        due("spare(0, 3)", x.spare(0, 3), -1);
        due("spare(0, -1)", x.spare(0, -1), -1);
        due("spare(2, 0)", x.spare(2, 0), -1);
        due("spare(1, 0)", x.spare(1, 0), 0);
        due("row", row(x), "0 0");
        due("spare(1, 1)", x.spare(1, 1), -1);
        x = land("tab0;tbc0;rac5;jac*2");
        due("of equal ones the least set", x.spare(0, 1), 10);
        due("row", row(x), "1 10");

        promise = "28 ceiling";
        x = land("tab2;rab5;jab*3");
        due("ceiling(0)", x.ceiling(0), 6);
        due("row", row(x), "0 0");
        x = land("tab2;rab5;jab*3;m0");
        due("cap 0", x.ceiling(0), 6);
        x = land("tab2;jcd*3/4");
        due("of equal ones the greatest", x.ceiling(0), 12);
        due("row", row(x), "6 0");
        x = land("uab2;tcd1;rab4;jab*1");
        x.toll(0, 6);
        due("the other's toll stays", x.ceiling(0), 4);
        due("row", row(x), "6 0");
        due("ceiling(2)", x.ceiling(2), -1);
    }

    private static void builders() {
        promise = "29 without";
        TollsThatPay x = land("tab2;rab5;rab6;jab*3");
        due("without(0, 1)", x.without(0, 1), 3);
        due("without(0, 2)", x.without(0, 2), 0);
        due("without(0, 0)", x.without(0, 0), -9);
        due("without(0, 3)", x.without(0, 3), -1);
        due("without(0, -1)", x.without(0, -1), -1);
        due("without(2, 0)", x.without(2, 0), -1);
        due("without(1, 0)", x.without(1, 0), 0);
        due("all is there still", x.best(0), 9);
        due("ways", x.ways(0), 3);
        x = land("rab1;tab2;rab5;jab*1s2");
        due("slow ones know no more", x.without(0, 0), 6);
        x = land("tab0;uab1;rab6;jab*1");
        x.toll(1, 4);
        due("the other house's road", x.without(0, 1), 1);

        promise = "30 ford";
        x = land("tab2;rab9;jab*3;jcd*1s2/5;ucd0");
        due("best(0)", x.best(0), 18);
        due("ford(0, 0, 1, 5)", x.ford(0, 0, 1, 5), -9);
        due("ford(0, 1, 0, 5)", x.ford(0, 1, 0, 5), -9);
        due("ford(0, 0, 1, 99)", x.ford(0, 0, 1, 99), 0);
        due("a way to the bridge", land("tab2;rcd9;jca*1").ford(0, 1, 2, 0), 6);
        due("a slow one does not know it", land("tab2;rab5;jab*3s2").ford(0, 0, 1, 0), 0);
        due("a slow one knows it", land("tab2;rab5;jab*3s3").ford(0, 0, 1, 0), -9);
        due("ford(2, ..)", x.ford(2, 0, 1, 5), -1);
        due("unlike", x.ford(0, 1, 1, 5), -1);
        due("corner 8", x.ford(0, 0, 8, 5), -1);
        due("corner -1", x.ford(0, -1, 1, 5), -1);
        due("cost 100", x.ford(0, 0, 1, 100), -1);
        due("cost -1", x.ford(0, 0, 1, -1), -1);
        due("roads", x.count(0), 3);
        x = land(times("rab9", 11), "tab2;jab*3;rab9");
        due("13 roads", x.ford(0, 0, 1, 5), -9);
        tell(x, "rcd1");
        due("14 roads", x.ford(0, 0, 1, 5), -1);
        x = land("m11;tab0;tab0;tab0;tab0;rab5;jab*1");
        due("too many sets", x.ford(0, 0, 1, 5), -1);
        due("too many sets", x.without(0, 4), -1);
    }

    private static void chances() {
        promise = "31 weight";
        TollsThatPay x = land("tab1+0;rab2+3;jab*1c0-2");
        due("weight(0, 99)", x.weight(0, 99), 1);
        due("weight(0, 1)", x.weight(0, 1), 99);
        due("weight(9, 0)", x.weight(9, 0), 1);
        due("weight(10, 0)", x.weight(10, 0), -1);
        due("weight(-1, 0)", x.weight(-1, 0), -1);
        due("weight(1, 100)", x.weight(1, 100), -1);
        due("weight(1, -1)", x.weight(1, -1), -1);

        promise = "32 mean";
        due("mean(0)", x.mean(0), 8);
        due("row", row(x), "4");
        x.weight(2, 3);
        due("mean(0)", x.mean(0), 18);
        due("row", row(x), "6");
        due("mean(1)", x.mean(1), 0);
        due("mean(2)", x.mean(2), -1);
        x = land("tab0;rab3;jab*2");
        due("plain ones go in all worlds", x.mean(0), 60);
        x = land("tab0;rab3;jab*2w4;jab*1c7-7");
        due("one alone of a crowd goes in its own", x.mean(0), 63);
        for (int w = 0; w < 10; w++) {
            x.weight(w, 0);
        }
        due("no weights", x.mean(0), 0);
        due("row", row(x), "0");

        promise = "33 safe";
        x.way(0, 4);
        x.toll(0, 1);
        x.line(0);
        due("no weights", x.safe(0), -1);
        due("row stays", row(x), "0 3 6 9 0 0 0");
        x.toll(0, 0);
        x.weight(7, 1);
        due("world 7", x.safe(0), 9);
        x.weight(6, 1);
        due("world 6 too", x.safe(0), 6);
        due("row", row(x), "3");
        due("safe(2)", x.safe(2), -1);
        x = land("tab1+0;rab2+3;jab*1c0-2");
        due("a world without goers", x.safe(0), 0);
        due("row", row(x), "0");

        promise = "34 learn";
        due("learn(0, 1)", x.learn(0, 1), 7);
        due("learn(0, 0)", x.learn(0, 0), 1016);
        due("learn(1, 0)", x.learn(1, 0), 1023);
        x.toll(0, 3);
        due("learn(0, 1)", x.learn(0, 1), 6);
        due("learn(1, 1)", x.learn(1, 1), 1);
        x.weight(0, 0);
        due("of no weight too", x.learn(1, 1), 1);
        due("learn(2, 0)", x.learn(2, 0), -1);
        due("learn(-1, 0)", x.learn(-1, 0), -1);
        due("learn(0, -1)", x.learn(0, -1), -1);
        tell(x, "jab*5w2");
        due("those who are known", x.learn(0, 6), 6);
        due("those who are known", x.learn(0, 5), 1017);
    }

    private static void parts() {
        promise = "35 last";
        TollsThatPay x = land("tab0;tbc0;rac5;jac*2;rab3;ucd0");
        due("best(0)", x.best(0), 10);
        due("last(0)", x.last(0), 0);
        due("last(1)", x.last(1), 4);
        due("last(2)", x.last(2), -1);
        due("last(4)", x.last(4), 0);
        due("last(5)", x.last(5), -1);
        due("last(-1)", x.last(-1), -1);
        x.toll(0, 2);
        due("others are asked their best", x.last(1), 4);

        promise = "36 fair";
        due("fair(0)", x.fair(0), 3);
        due("row", row(x), "3 1");
        due("fair(1)", x.fair(1), 7);
        due("row", row(x), "7 1");
        due("fair(4)", x.fair(4), 0);
        due("row", row(x), "0 1");
        due("fair(2)", x.fair(2), -1);
        due("fair(5)", x.fair(5), -1);
        due("row stays", row(x), "0 1");
        x = land("tab0;tab0;rab5;jab*1");
        due("two that are nothing alone", x.fair(1), 2);
        due("row", row(x), "5 2");
        x = land("tab0;tab0;tbc0;rac5;jac*1");
        due("one of two side by side", x.fair(0), 0);
        due("row", row(x), "5 6");
        due("the one behind them", x.fair(2), 3);
        due("row", row(x), "10 3");
        x = land("m11;tab0;tab0;tab0;tab0;rab5;jab*1");
        due("too many sets", x.last(0), -1);
        due("too many sets", x.fair(0), -1);
    }

    private static void numbers() {
        promise = "37 count";
        TollsThatPay x = land("tab2;uab5;rcd1;jab*30c2-6;jab*9;m9");
        x.lean(1);
        x.best(0);
        x.sign(0);
        int[] due = {3, 2, 2, 6, 9, 1, 1, 4};
        for (int what = 0; what < due.length; what++) {
            due("count(" + what + ")", x.count(what), due[what]);
        }
        due("count(8)", x.count(8), -1);
        due("count(-1)", x.count(-1), -1);

        promise = "38 of";
        x = land("thg98+7;uab5;rcd1");
        x.toll(0, 3);
        due("of 0", of(x, 0), "7 6 98 7 0 3");
        due("of 1", of(x, 1), "0 1 5 0 1 0");
        due("of 2", of(x, 2), "2 3 1 0 -1 0");
        int[][] bad = {{3, 0}, {-1, 0}, {0, 6}, {0, -1}, {Integer.MAX_VALUE, Integer.MIN_VALUE}};
        for (int[] b : bad) {
            due("of(" + b[0] + ", " + b[1] + ") throws", throwsOf(x, b[0], b[1]) ? 1 : 0, 1);
        }

        promise = "39 row";
        x = land("tab2;rab5;jab*3");
        x.line(0);
        due("row(0)", x.row(0), 0);
        due("row(3)", x.row(3), 9);
        due("row(6)", x.row(6), 0);
        due("row(7) throws", throwsRow(x, 7) ? 1 : 0, 1);
        due("row(-1) throws", throwsRow(x, -1) ? 1 : 0, 1);
        x.way(0, 0);
        due("row(1) throws", throwsRow(x, 1) ? 1 : 0, 1);
    }

    public static void main(String[] args) {
        newObject();
        signs();
        texts();
        longTexts();
        tolls();
        waysTaken();
        rooms();
        takes();
        bests();
        givens();
        climbs();
        hours();
        duels();
        mayors();
        builders();
        chances();
        parts();
        numbers();
        System.out.println(wrong == 0 ? "all promises hold" : wrong + " wrong");
        if (wrong > 0) {
            System.exit(1);
        }
    }
}
