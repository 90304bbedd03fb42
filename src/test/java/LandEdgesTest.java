/** Promises 1 to 6, and what terms 1 and 2 say of texts: a test for each sentence that names an edge. */
public final class LandEdgesTest {
    private static final String ELEVEN = Hand.times("rab1", 11);

    private static void newObject() {
        Hand.promise(1, "nothing there: numbers", () -> {
            TollsThatPay x = new TollsThatPay();
            int[] counts = {0, 0, 0, 0, 6, 0, 0, 0};
            for (int what = 0; what < counts.length; what++) {
                Hand.due("count(" + what + ")", x.count(what), counts[what]);
            }
        });
        Hand.promise(1, "nothing there: no journey, no road", () -> {
            TollsThatPay x = new TollsThatPay();
            Hand.due("way(0, 0)", x.way(0, 0), -1);
            Hand.due("pains(0, 0)", x.pains(0, 0), -1);
            Hand.due("room(0, 0)", x.room(0, 0), -1);
            Hand.due("ways(0)", x.ways(0), -1);
            Hand.due("by(0)", x.by(0), -1);
            Hand.due("line(0)", x.line(0), -1);
            Hand.due("bends(0)", x.bends(0), -1);
            Hand.due("learn(0, 0)", x.learn(0, 0), -1);
            Hand.due("last(0)", x.last(0), -1);
            Hand.due("fair(0)", x.fair(0), -1);
            Hand.due("toll(0, 0)", x.toll(0, 0), -1);
            Hand.due("without(0, 0)", x.without(0, 0), -1);
            Hand.due("of(0, 0) throws", Hand.throwsOf(x, 0, 0), true);
            Hand.due("row(0) throws", Hand.throwsRow(x, 0), true);
        });
        Hand.promise(1, "nothing there: houses without roads take nothing", () -> {
            TollsThatPay x = new TollsThatPay();
            for (int house = 0; house < 2; house++) {
                Hand.due("take", x.take(house), 0);
                Hand.due("best", x.best(house), 0);
                Hand.due("row", Hand.row(x), "");
                Hand.due("set", x.set(house), 0);
                Hand.due("ties", x.ties(house), 0);
                Hand.due("bound", x.bound(house), 0);
                Hand.due("given", x.given(house), 0);
                Hand.due("above 0", x.above(house, 0), 1);
                Hand.due("above 1", x.above(house, 1), 0);
                Hand.due("climb", x.climb(house), 0);
                Hand.due("row", Hand.row(x), "0");
                Hand.due("gap", x.gap(house), 0);
                Hand.due("times", x.times(house), 0);
                Hand.due("row", Hand.row(x), "0 0 0 0");
                Hand.due("spare", x.spare(house, 0), 0);
                Hand.due("row", Hand.row(x), "0 0");
                Hand.due("ceiling", x.ceiling(house), 0);
                Hand.due("row", Hand.row(x), "6 0");
                Hand.due("ford", x.ford(house, 0, 1, 0), 0);
                Hand.due("mean", x.mean(house), 0);
                Hand.due("row", Hand.row(x), "");
                Hand.due("safe", x.safe(house), 0);
                Hand.due("row", Hand.row(x), "");
            }
            Hand.due("suffered()", x.suffered(), 0);
            Hand.due("answers(2)", x.answers(2), 0);
            Hand.due("row", Hand.row(x), "0 0");
            Hand.due("rests()", x.rests(), 1);
            Hand.due("row", Hand.row(x), "0 0");
        });
        Hand.promise(1, "each object has its own", () -> {
            TollsThatPay x = Hand.land("tab2;rab5;jab*3;m4");
            x.lean(1);
            x.weight(0, 7);
            x.line(0);
            Hand.spell(x, "r");
            TollsThatPay y = new TollsThatPay();
            Hand.due("roads", y.count(0), 0);
            Hand.due("cap", y.count(4), 6);
            Hand.due("lean", y.count(5), 0);
            Hand.due("row", y.count(6), 0);
            Hand.due("signs", y.count(7), 0);
            Hand.due("weight", y.weight(0, 1), 1);
            Hand.due("the first one's roads", x.count(0), 2);
        });
    }

    private static void signs() {
        Hand.promise(2, "of v the highest byte first", () -> {
            TollsThatPay x = new TollsThatPay();
            x.sign(0x72616237);
            Hand.due("tell()", x.tell(), 1);
            Hand.due("of 0", Hand.of(x, 0), "0 1 7 0 -1 0");
        });
        Hand.promise(2, "come behind the text: how many it has", () -> {
            TollsThatPay x = new TollsThatPay();
            Hand.due("first", x.sign(0x72616231), 4);
            Hand.due("second", x.sign(0x3b6d3030), 8);
            x.end(5);
            Hand.due("behind a cut", x.sign(0x6d313000), 9);
            x.end(8);
            Hand.due("tell() of rab1;m10", x.tell(), 2);
            Hand.due("cap", x.count(4), 10);
        });
        Hand.promise(2, "100 signs are not refused", () -> {
            TollsThatPay x = new TollsThatPay();
            for (int i = 1; i <= 25; i++) {
                Hand.due("sign " + i, x.sign(0x72616231), 4 * i);
            }
            Hand.due("signs", x.count(7), 100);
        });
        Hand.promise(2, "refused: there would be more than 100", () -> {
            for (int n = 97; n <= 100; n++) {
                TollsThatPay x = new TollsThatPay();
                for (int i = 0; i < 25; i++) {
                    x.sign(0x72616231);
                }
                x.end(n);
                Hand.due("sign behind " + n, x.sign(0x78787878), -1);
                Hand.due("signs", x.count(7), n);
                Hand.due("again", x.sign(0x78787878), -1);
                x.end(4);
                Hand.due("the first sign stays", x.tell(), 1);
            }
            TollsThatPay x = new TollsThatPay();
            for (int i = 0; i < 25; i++) {
                x.sign(0x72616231);
            }
            x.end(96);
            Hand.due("sign behind 96", x.sign(0), 100);
        });
        Hand.promise(2, "bytes above 127 and 0 are signs like others", () -> {
            int[] odd = {-1, 0, 0x80808080, Integer.MIN_VALUE, Integer.MAX_VALUE};
            for (int v : odd) {
                TollsThatPay x = new TollsThatPay();
                Hand.due("sign(" + v + ")", x.sign(v), 4);
                Hand.due("tell()", x.tell(), -1);
            }
            TollsThatPay x = new TollsThatPay();
            x.sign(0x726162b1);
            Hand.due("no digit, though its low bits are one's", x.tell(), -4);
            x.sign(0xf2616231);
            Hand.due("no r", x.tell(), -1);
        });
    }

    private static void ends() {
        Hand.promise(3, "the first n signs alone", () -> {
            TollsThatPay x = new TollsThatPay();
            Hand.spell(x, "rab12;m3");
            Hand.due("end(8)", x.end(8), true);
            Hand.due("signs", x.count(7), 8);
            Hand.due("end(4)", x.end(4), true);
            Hand.due("signs", x.count(7), 4);
            Hand.due("end(5)", x.end(5), false);
            Hand.due("tell()", x.tell(), 1);
            Hand.due("cost", x.of(0, 2), 1);
            Hand.due("cap", x.count(4), 6);
        });
        Hand.promise(3, "none of an empty text", () -> {
            TollsThatPay x = new TollsThatPay();
            Hand.due("end(0)", x.end(0), true);
            Hand.due("end(1)", x.end(1), false);
            x.sign(0x72616231);
            Hand.due("end(0)", x.end(0), true);
            Hand.due("signs", x.count(7), 0);
            Hand.due("tell()", x.tell(), -1);
        });
        Hand.promise(3, "false if it has not so many", () -> {
            int[] many = {5, 6, 100, 101, Integer.MAX_VALUE};
            for (int n : many) {
                TollsThatPay x = new TollsThatPay();
                x.sign(0x72616231);
                Hand.due("end(" + n + ")", x.end(n), false);
                Hand.due("signs", x.count(7), 4);
                Hand.due("tell()", x.tell(), 1);
            }
        });
        Hand.promise(3, "false if n is below 0", () -> {
            int[] many = {-1, -4, Integer.MIN_VALUE};
            for (int n : many) {
                TollsThatPay x = new TollsThatPay();
                x.sign(0x72616231);
                Hand.due("end(" + n + ")", x.end(n), false);
                Hand.due("signs", x.count(7), 4);
                Hand.due("tell()", x.tell(), 1);
            }
        });
    }

    private static void tells() {
        Hand.promise(4, "how many items", () -> {
            Hand.due("one", Hand.told("rab1"), 1);
            Hand.due("all kinds", Hand.told("rab1;tab1;uab1;jab*1;m3"), 5);
            Hand.due("as many as fit", Hand.told(Hand.times("m1", 20)), 20);
        });
        Hand.promise(4, "the text is empty then", () -> {
            String[] texts = {"rab1", "rab", "x", "m21", Hand.times("jab*1", 9)};
            for (String text : texts) {
                TollsThatPay x = new TollsThatPay();
                Hand.tell(x, text);
                Hand.due("signs behind " + text, x.count(7), 0);
                Hand.due("end(1)", x.end(1), false);
                Hand.due("tell()", x.tell(), -1);
            }
        });
        Hand.promise(4, "an empty text ends too early", () -> Hand.due("tell()", new TollsThatPay().tell(), -1));
        Hand.promise(4, "it ends too early: its end", () -> {
            String text = "tab12+3;jcd*45c1-3s6/789@2;m20";
            String ends = "000110100000110001010111010011";
            for (int n = 0; n <= text.length(); n++) {
                boolean whole = n > 0 && ends.charAt(n - 1) == '1';
                int items = n < 8 ? 1 : n < 27 ? 2 : 3;
                Hand.due("tell() of " + text.substring(0, n), Hand.told(text.substring(0, n)), whole ? items : -1 - n);
            }
        });
        Hand.promise(4, "what is told", () -> {
            TollsThatPay x = Hand.land("rab0;thg99+9;uac7+0;jab*99c4-9s3/999@3");
            Hand.due("of 0", Hand.of(x, 0), "0 1 0 0 -1 0");
            Hand.due("of 1", Hand.of(x, 1), "7 6 99 9 0 0");
            Hand.due("of 2", Hand.of(x, 2), "0 2 7 0 1 0");
            Hand.due("goers", x.count(3), 6);
            Hand.due("suffered", x.suffered(), 0);
        });
        Hand.promise(4, "what was told stays when another text is told", () -> {
            TollsThatPay x = Hand.land("tab1+2;rab4;uab9", "jab*3c1-4s2/7@2", "jab*2w3@3", "m5", "rcd1");
            for (int i = 0; i < 2; i++) {
                Hand.due("goers", x.count(3), 5);
                Hand.due("ways of slow ones", x.ways(0), 3);
                Hand.due("ways", x.ways(1), 3);
                Hand.due("pains", x.pains(0, 4), 4);
                Hand.due("pains", x.pains(0, 1), 3);
                Hand.due("suffered", x.suffered(), 3 * (3 + 4 + 4 + 4) + 2 * 4);
                Hand.due("the worths of a crowd", x.learn(0, 3), 2);
                x.times(0);
                Hand.due("times", Hand.row(x), "0 0 3 0");
                Hand.due("of 0", Hand.of(x, 0), "0 1 1 2 0 0");
                Hand.due("of 2", Hand.of(x, 2), "0 1 9 0 1 0");
                Hand.tell(x, i == 0 ? "ref1" : "q");
            }
        });
        Hand.promise(4, "the row stays", () -> {
            TollsThatPay x = Hand.land("tab2;rab5;jab*3");
            x.best(0);
            Hand.tell(x, "rab1");
            Hand.due("row", Hand.row(x), "3");
            Hand.tell(x, "q");
            Hand.due("row", Hand.row(x), "3");
        });
    }

    /** Each text, and the place of the sign that can't stand there. */
    private static void wrongSigns(Object... textsAndPlaces) {
        for (int i = 0; i + 1 < textsAndPlaces.length; i += 2) {
            String text = (String) textsAndPlaces[i];
            int place = (Integer) textsAndPlaces[i + 1];
            Hand.due("tell() of " + text, Hand.told(text), -1 - place);
            TollsThatPay x = Hand.land("tab3;jab*2;m4");
            x.toll(0, 4);
            String before = Hand.state(x);
            Hand.due("tell() of m1;rcd1;" + text, Hand.tell(x, "m1;rcd1;" + text), -1 - place - 8);
            Hand.due("nothing is told by " + text, Hand.state(x), before);
        }
    }

    private static void goodTexts(String... texts) {
        for (String text : texts) {
            Hand.due("tell() of " + text, Hand.told(text), 1);
            Hand.due("tell() of " + text + ";m1", Hand.told(text + ";m1"), 2);
        }
    }

    private static void grammar() {
        Hand.promise(4, "an item's first letter", () ->
            wrongSigns("a", 0, "R", 0, "s", 0, "q", 0, ";", 0, "1", 0, " rab1", 0, "\u00f2ab1", 0));
        Hand.promise(4, "items with ; between", () ->
            wrongSigns("rab1,rab1", 4, "rab1;;rab1", 5, "rab1;", 5, ";rab1", 0, "rab1 ;rab1", 4, "rab1rab1", 4, "jab*1;", 6, "m1;", 3));
        Hand.promise(4, "letters of corners a .. h", () -> {
            goodTexts("rah0", "rha0", "jah*1", "tgh0", "uhg0");
            wrongSigns("ri", 1, "r`b1", 1, "rA", 1, "rai1", 2, "ra`1", 2, "raB1", 2, "ji", 1, "jai*1", 2, "tia1", 1, "uaz1", 2, "r1b1", 1);
        });
        Hand.promise(4, "a corner that is the same as the first", () ->
            wrongSigns("raa1", 2, "thh1", 2, "ubb1", 2, "jcc*1", 2));
        Hand.promise(4, "a number has 1 to 3 digits", () -> {
            goodTexts("rab1", "rab12", "rab099", "rab000", "rab007", "jab*001", "jab*1s000", "jab*1s007", "jab*1/000", "m000", "m020");
            wrongSigns("rab", 3, "rab;", 3, "rab+1", 3, "rab0000", 6, "rab0011", 6, "jab*", 4, "jab*w1", 4, "jab*0011", 7,
                "jab*1s", 6, "jab*1s/1", 6, "jab*1s0001", 9, "jab*1/", 6, "jab*1/@1", 6, "jab*1/0001", 9, "m", 1, "m;", 1, "m0001", 4);
        });
        Hand.promise(4, "cost above 99, at its last digit", () -> {
            goodTexts("rab99", "tab99", "uab99+9", "rab0");
            wrongSigns("rab100", 5, "rab999", 5, "tab100", 5, "uab100+1", 5, "rab1000", 5);
        });
        Hand.promise(4, "hours: perhaps + and a digit", () -> {
            goodTexts("rab1+0", "rab1+9");
            wrongSigns("rab1+", 5, "rab1+;", 5, "rab1+10", 6, "rab1+x", 5, "rab1+-1", 5, "rab1++1", 5, "rab1+1+1", 6, "rab1-1", 4);
            TollsThatPay x = Hand.land("rab1+0;rab1+9;rab1");
            Hand.due("hours", x.of(0, 3) + " " + x.of(1, 3) + " " + x.of(2, 3), "0 9 0");
        });
        Hand.promise(4, "a journey's *", () -> wrongSigns("jab1", 3, "jab", 3, "jab**1", 4, "jab+1", 3));
        Hand.promise(4, "many above 99 or 0, at its last digit", () -> {
            goodTexts("jab*1", "jab*99", "jab*01", "jab*099");
            wrongSigns("jab*0", 4, "jab*00", 5, "jab*000", 6, "jab*100", 6, "jab*999", 6, "jab*0w1", 4, "jab*1000", 6);
        });
        Hand.promise(4, "w and a digit", () -> {
            goodTexts("jab*1w0", "jab*1w9");
            wrongSigns("jab*1w", 6, "jab*1w;", 6, "jab*1w10", 7, "jab*1wa", 6);
        });
        Hand.promise(4, "c, a digit, -, a digit not below it", () -> {
            goodTexts("jab*1c0-0", "jab*1c9-9", "jab*1c3-4");
            wrongSigns("jab*1c", 6, "jab*1c-", 6, "jab*1c3", 7, "jab*1c3+4", 7, "jab*1c34", 7, "jab*1c3-", 8, "jab*1c3-2", 8, "jab*1c9-8", 8,
                "jab*1c3-45", 9, "jab*1c3-;", 8);
        });
        Hand.promise(4, "5 above it at most", () -> {
            goodTexts("jab*1c0-5", "jab*1c4-9", "jab*1c5-9", "jab*1c3-8");
            wrongSigns("jab*1c0-6", 8, "jab*1c3-9", 8, "jab*1c0-9", 8, "jab*1c9-10", 8);
        });
        Hand.promise(4, "s and a number, / and a number up to 999", () -> {
            goodTexts("jab*1s0", "jab*1s999", "jab*1/0", "jab*1/999");
            wrongSigns("jab*1s1000", 9, "jab*1/1000", 9);
        });
        Hand.promise(4, "@ and a digit 0 .. 3", () -> {
            goodTexts("jab*1@0", "jab*1@3");
            wrongSigns("jab*1@", 6, "jab*1@4", 6, "jab*1@9", 6, "jab*1@01", 7, "jab*1@-1", 6);
        });
        Hand.promise(4, "in this order, each perhaps", () -> {
            goodTexts("jab*1w1s2/3@0", "jab*1c1-2s2/3@0", "jab*1s2@0", "jab*1w1@0", "jab*1/3@0", "jab*1w1/3", "jab*1s2/3");
            wrongSigns("jab*1w1w1", 7, "jab*1w1c1-2", 7, "jab*1c1-2w1", 9, "jab*1c1-2c1-2", 9, "jab*1s2w1", 7, "jab*1s2c1-1", 7, "jab*1s2s2", 7,
                "jab*1/3s2", 7, "jab*1/3w1", 7, "jab*1/3/3", 7, "jab*1@0/3", 7, "jab*1@0s2", 7, "jab*1@0w1", 7, "jab*1@0@0", 7, "jab*1@0c1-1", 7);
        });
        Hand.promise(4, "cap above 20, at its last digit", () -> {
            goodTexts("m0", "m6", "m20", "m020");
            wrongSigns("m21", 2, "m99", 2, "m021", 3, "m100", 3, "m210", 3, "m999", 3, "m1+1", 2);
        });
    }

    private static void caps() {
        Hand.promise(4, "cap becomes that: 0 .. 20, at first 6", () -> {
            TollsThatPay x = Hand.land("tab1;jab*1");
            Hand.due("at first", x.count(4), 6);
            int[] caps = {0, 20, 1};
            for (int cap : caps) {
                Hand.tell(x, "m" + cap);
                Hand.due("cap", x.count(4), cap);
                Hand.due("one more", x.toll(0, cap + 1), -1);
                Hand.due("it", x.toll(0, cap) >= 0, true);
                x.toll(0, 0);
            }
        });
        Hand.promise(4, "tolls above it become it, others stay", () -> {
            TollsThatPay x = Hand.land("tab1;tab1;uab1;uab1;rab1");
            Hand.ask(x, 6, 4, 5, 3);
            Hand.tell(x, "m4");
            Hand.due("tolls", Hand.tolls(x), "4 4 4 3");
            Hand.tell(x, "m20");
            Hand.due("tolls", Hand.tolls(x), "4 4 4 3");
            Hand.tell(x, "m0");
            Hand.due("tolls", Hand.tolls(x), "0 0 0 0");
        });
        Hand.promise(4, "each m of a text cuts tolls", () -> {
            TollsThatPay x = Hand.land("tab1;uab1");
            Hand.ask(x, 6, 1);
            Hand.tell(x, "m2;m9;rab1");
            Hand.due("tolls", Hand.tolls(x), "2 1");
            Hand.due("cap", x.count(4), 9);
        });
        Hand.promise(4, "tolls are at first 0", () -> {
            TollsThatPay x = Hand.land("tab1");
            x.toll(0, 5);
            Hand.tell(x, "tab1;uab1");
            Hand.due("tolls", Hand.tolls(x), "5 0 0");
        });
        Hand.promise(4, "new tolled roads have no toll of a land that was not told", () -> {
            TollsThatPay x = Hand.land("tab1");
            Hand.ask(x, 3);
            Hand.tell(x, "tab1;q");
            Hand.tell(x, "tcd1");
            x.without(0, 0);
            Hand.tell(x, "tef1");
            Hand.due("tolls", Hand.tolls(x), "3 0 0");
        });
    }

    private static void sixty() {
        Hand.promise(4, "60 signs that end", () -> {
            Hand.due("60", Hand.told(ELEVEN + ";rab10"), 12);
            Hand.due("60, a cap at the end", Hand.told(ELEVEN + ";m1;m2"), 13);
            Hand.due("60, journey and cap", Hand.told(Hand.times("rab1", 10) + ";jab*1w3;m9"), 12);
        });
        Hand.promise(4, "60 signs that end too early", () -> {
            Hand.due("60", Hand.told(ELEVEN + ";rab1;"), -61);
            Hand.due("60 within an item", Hand.told(ELEVEN + ";m1;ra"), -61);
            Hand.due("59", Hand.told(ELEVEN + ";m1;m"), -60);
            Hand.due("58", Hand.told(ELEVEN + ";rab"), -59);
        });
        Hand.promise(4, "60, if it has more and the first 60 could end", () -> {
            Hand.due("61", Hand.told(ELEVEN + ";rab10;"), -61);
            Hand.due("61 by a digit", Hand.told(ELEVEN + ";rab100"), -61);
            Hand.due("100", Hand.told(Hand.times("rab1", 20) + "q"), -61);
        });
        Hand.promise(4, "60, if it has more and the first 60 could go on", () -> {
            Hand.due("61 behind ;", Hand.told(ELEVEN + ";rab1;m"), -61);
            Hand.due("61 within an item", Hand.told(ELEVEN + ";m1;ra1"), -61);
            Hand.due("61, whatever it is", Hand.told(ELEVEN + ";rab1;?"), -61);
        });
        Hand.promise(4, "a wrong sign among the first 60 goes ahead of that", () -> {
            Hand.due("the last of 60", Hand.told(ELEVEN + ";rab1?rab1"), -60);
            Hand.due("the first of 100", Hand.told("?" + Hand.times("rab1", 19) + "m1"), -1);
            Hand.due("a cost near the end", Hand.told(Hand.times("rab1", 10) + ";m1;rab1001"), -59);
        });
        Hand.promise(4, "a number at the end of the first 60 signs ends there", () -> {
            Hand.due("many 0|5", Hand.told(ELEVEN + ";jab*05"), -60);
            Hand.due("many 0", Hand.told(ELEVEN + ";jab*0"), -60);
            Hand.due("many 9|99", Hand.told(ELEVEN + ";jab*999"), -61);
            Hand.due("cost 10|0", Hand.told(ELEVEN + ";rab100"), -61);
            Hand.due("cap 2|1", Hand.told(Hand.times("rab1", 10) + ";jab*1w3;m21"), -61);
            Hand.due("cap 21|0", Hand.told(Hand.times("rab1", 10) + ";jab*10;m210"), -60);
            Hand.due("cap 210|", Hand.told(Hand.times("rab1", 10) + ";jab*1;m210"), -60);
            Hand.due("slow 1|000", Hand.told(Hand.times("rab1", 10) + ";m1;jab*1s1000"), -61);
            Hand.due("slow 100|0", Hand.told(Hand.times("rab1", 10) + ";jab*10s1000"), -61);
            Hand.due("slow 1000|", Hand.told(Hand.times("rab1", 10) + ";jab*1s1000"), -60);
            Hand.due("home 999|9", Hand.told(Hand.times("rab1", 10) + ";jab*10/9999"), -61);
            Hand.due("but hours are a digit", Hand.told(Hand.times("rab1", 10) + ";m20;rab1+99"), -61);
            Hand.due("hours 99|", Hand.told(Hand.times("rab1", 10) + ";m2;rab1+99"), -60);
        });
    }

    private static void limits() {
        Hand.promise(4, "-100: too many roads", () -> {
            TollsThatPay x = Hand.land(Hand.times("rab1", 12), "rab1;rab1");
            Hand.due("14", x.count(0), 14);
            String before = Hand.state(x);
            Hand.due("15", Hand.tell(x, "m3;rab1"), -100);
            Hand.due("15 by a tolled one", Hand.tell(x, "tab1"), -100);
            Hand.due("many more", Hand.tell(x, Hand.times("rab1", 12)), -100);
            Hand.due("nothing is told", Hand.state(x), before);
            Hand.due("others can be told", Hand.tell(x, "m3;jab*1"), 2);
        });
        Hand.promise(4, "-101: too many tolled ones", () -> {
            TollsThatPay x = Hand.land(Hand.times("tab1", 3) + ";uab1;uab1");
            Hand.due("5", x.count(1), 5);
            String before = Hand.state(x);
            Hand.due("6 by house 0", Hand.tell(x, "m3;tab1"), -101);
            Hand.due("6 by house 1", Hand.tell(x, "m3;uab1;rab1"), -101);
            Hand.due("nothing is told", Hand.state(x), before);
            Hand.due("others can be told", Hand.tell(x, "rab1"), 1);
            Hand.due("6 at once", Hand.told(Hand.times("uab1", 6)), -101);
            Hand.due("12 at once", Hand.told(Hand.times("tab1", 12)), -101);
        });
        Hand.promise(4, "-102: too many journeys", () -> {
            TollsThatPay x = Hand.land(Hand.times("jab*1", 8));
            Hand.due("8", x.count(2), 8);
            String before = Hand.state(x);
            Hand.due("9", Hand.tell(x, "m3;jab*1"), -102);
            Hand.due("10", Hand.tell(x, "rab1;jab*1;jab*1"), -102);
            Hand.due("nothing is told", Hand.state(x), before);
            Hand.due("others can be told", Hand.tell(x, "rab1"), 1);
            Hand.due("9 at once", Hand.told(Hand.times("jab*1", 9)), -102);
        });
        Hand.promise(4, "the first of these", () -> {
            TollsThatPay x = Hand.land(Hand.times("rab1", 12), "jab*1;jab*1;jab*1");
            Hand.due("roads ahead of tolled ones and journeys", Hand.tell(x, Hand.times("jab*1", 4) + ";" + Hand.times("tab1", 6)), -100);
            Hand.due("tolled ones ahead of journeys", Hand.tell(Hand.land("rab1"), Hand.times("jab*1", 4) + ";" + Hand.times("tab1", 6)), -101);
            x = Hand.land(Hand.times("jab*1", 8));
            Hand.due("tolled ones ahead of journeys", Hand.tell(x, "jab*1;" + Hand.times("tab1", 6)), -101);
            Hand.due("journeys behind five tolled ones", Hand.tell(x, "jab*1;" + Hand.times("tab1", 5)), -102);
        });
        Hand.promise(4, "a sign that can't stand there goes ahead of too many", () -> {
            TollsThatPay x = Hand.land(Hand.times("rab1", 12), "rab1;rab1");
            Hand.due("behind", Hand.tell(x, "rab1;q"), -6);
            Hand.due("too early", Hand.tell(x, "rab1;"), -6);
            Hand.due("too long", Hand.tell(x, Hand.times("rab1", 12) + ";m"), -61);
        });
        Hand.promise(4, "-103: the most ways are told", () -> {
            // 14 roads have most ways in a chain of bundles of 3, 3, 3, 3 and 2: 162, and home
            TollsThatPay x = Hand.land(Hand.times("rab1", 3) + ";" + Hand.times("rbc1", 3) + ";" + Hand.times("rcd1", 3) + ";rde1;rde1;rde1",
                "ref1;ref1;jaf*1/999;jfa*1");
            Hand.due("and home", x.ways(0), 163);
            Hand.due("back", x.ways(1), 162);
        });
    }

    private static void tolls() {
        Hand.promise(5, "what it was", () -> {
            TollsThatPay x = Hand.land("rab1;tab2;uab3;jab*1");
            Hand.due("at first 0", x.toll(1, 6), 0);
            Hand.due("then", x.toll(1, 6), 6);
            Hand.due("back", x.toll(1, 0), 6);
            Hand.due("the other house's", x.toll(2, 1), 0);
            Hand.due("tolls", Hand.tolls(x), "0 1");
        });
        Hand.promise(5, "tolls 0 .. cap", () -> {
            int[] bad = {-1, 7, 20, 21, Integer.MIN_VALUE, Integer.MAX_VALUE};
            for (int v : bad) {
                Hand.refused("rab1;tab2;jab*1", "toll(1, " + v + ")", x -> x.toll(1, v));
            }
            Hand.due("toll(1, 0)", Hand.land("rab1;tab2").toll(1, 0), 0);
            Hand.due("toll(1, 6)", Hand.land("rab1;tab2").toll(1, 6), 0);
            Hand.due("toll(1, 20)", Hand.land("rab1;tab2;m20").toll(1, 20), 0);
            Hand.refused("rab1;tab2;m20", "toll(1, 21)", x -> x.toll(1, 21));
            Hand.refused("rab1;tab2;m0", "toll(1, 1)", x -> x.toll(1, 1));
        });
        Hand.promise(5, "refused: no such road", () -> {
            int[] bad = {-1, 2, 13, 14, 31, 32, Integer.MIN_VALUE, Integer.MAX_VALUE};
            for (int road : bad) {
                Hand.refused("rab1;tab2;jab*1", "toll(" + road + ", 1)", x -> x.toll(road, 1));
            }
        });
        Hand.promise(5, "refused: it is not tolled", () -> {
            Hand.refused("rab1;tab2;jab*1", "toll(0, 1)", x -> x.toll(0, 1));
            Hand.refused("rab1;tab2;jab*1", "toll(0, 0)", x -> x.toll(0, 0));
        });
    }

    private static void leans() {
        Hand.promise(6, "what it was", () -> {
            TollsThatPay x = new TollsThatPay();
            Hand.due("at first 0", x.lean(0), 0);
            Hand.due("lean(1)", x.lean(1), 0);
            Hand.due("lean(1)", x.lean(1), 1);
            Hand.due("count(5)", x.count(5), 1);
            Hand.due("lean(0)", x.lean(0), 1);
            Hand.due("count(5)", x.count(5), 0);
        });
        Hand.promise(6, "refused: others", () -> {
            int[] bad = {-1, 2, 3, Integer.MIN_VALUE, Integer.MAX_VALUE};
            for (int v : bad) {
                Hand.refused("tab2;jab*1", "lean(" + v + ")", x -> x.lean(v));
            }
        });
        Hand.promise(6, "it stays when texts are told", () -> {
            TollsThatPay x = Hand.land("tab2;jab*1");
            x.lean(1);
            Hand.tell(x, "m3");
            Hand.due("lean", x.count(5), 1);
        });
    }

    public static void main(String[] args) {
        newObject();
        signs();
        ends();
        tells();
        grammar();
        caps();
        sixty();
        limits();
        tolls();
        leans();
        Hand.finish(1, 6);
    }
}
