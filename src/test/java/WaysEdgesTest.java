/** Promises 7 to 13, and what terms 1 say of ways, pains and draws: a test for each sentence that names an edge. */
public final class WaysEdgesTest {
    /** Journeys 0: plain, 1: of worth 3, 2: a crowd 2-4, 3: with home, 4: no way, 5: no way but home. */
    private static final String SIX = "tab2+1;rab9;jab*1;jab*2w3;jab*3c2-4;jab*1/1;jad*1;jad*1/7";

    interface GoerCall {
        int ask(TollsThatPay x, int journey, int worth);
    }

    private static void refusedOfGoers(int promise, String name, GoerCall call) {
        Hand.promise(promise, "none: no such journey", () -> {
            int[] bad = {-1, 6, 7, 8, 31, 32, Integer.MIN_VALUE, Integer.MAX_VALUE};
            for (int journey : bad) {
                Hand.refused(SIX, name + " of journey " + journey, x -> call.ask(x, journey, 0));
            }
            Hand.refused("tab2", name + " without journeys", x -> call.ask(x, 0, 0));
        });
        Hand.promise(promise, "none: no such goer", () -> {
            int[] bad = {-1, 1, 9, 10, Integer.MIN_VALUE, Integer.MAX_VALUE};
            for (int worth : bad) {
                Hand.refused(SIX, name + " of a plain one of worth " + worth, x -> call.ask(x, 0, worth));
                Hand.refused(SIX, name + " of none's way of worth " + worth, x -> call.ask(x, 4, worth));
            }
            int[] notThree = {0, 2, 4, Integer.MIN_VALUE, Integer.MAX_VALUE};
            for (int worth : notThree) {
                Hand.refused(SIX, name + " of worth 3 of worth " + worth, x -> call.ask(x, 1, worth));
            }
            int[] outside = {0, 1, 5, 9, Integer.MIN_VALUE, Integer.MAX_VALUE};
            for (int worth : outside) {
                Hand.refused(SIX, name + " of a crowd of worth " + worth, x -> call.ask(x, 2, worth));
            }
        });
        Hand.promise(promise, "each of its goers, the least and the greatest worth", () -> {
            Hand.asked(SIX, name, x -> call.ask(x, 0, 0));
            Hand.asked(SIX, name, x -> call.ask(x, 1, 3));
            Hand.asked(SIX, name, x -> call.ask(x, 2, 2));
            Hand.asked(SIX, name, x -> call.ask(x, 2, 4));
            Hand.asked(SIX, name, x -> call.ask(x, 5, 0));
            Hand.asked("tab2;jab*1w0;jab*1c9-9", name, x -> call.ask(x, 0, 0));
            Hand.asked("tab2;jab*1w0;jab*1c9-9", name, x -> call.ask(x, 1, 9));
        });
    }

    private static String way(TollsThatPay x, int journey, int worth) {
        int many = x.way(journey, worth);
        return many + ": " + Hand.row(x);
    }

    private static void ways() {
        refusedOfGoers(7, "way", (x, j, w) -> x.way(j, w));
        Hand.promise(7, "how many roads, the row: they, from its one corner to the other", () -> {
            TollsThatPay x = Hand.land("rcb1;tab1;rcd1;jad*1;jda*1;jab*1");
            Hand.due("there", way(x, 0, 0), "3: 1 0 2");
            Hand.due("back: roads go both ways", way(x, 1, 0), "3: 2 0 1");
            Hand.due("one road", way(x, 2, 0), "1: 1");
        });
        Hand.promise(7, "the longest way goes by all corners", () -> {
            TollsThatPay x = Hand.land("rab1;rbc1;rcd1;rde1;ref1;rfg1;rgh1;jah*1;jha*1");
            Hand.due("there", way(x, 0, 0), "7: 0 1 2 3 4 5 6");
            Hand.due("back", way(x, 1, 0), "7: 6 5 4 3 2 1 0");
        });
        Hand.promise(7, "14 roads, the greatest number", () -> {
            TollsThatPay x = Hand.land(Hand.times("rab9", 7), Hand.times("rbc9", 5) + ";rab8;rbc8;jac*1");
            Hand.due("way", way(x, 0, 0), "2: 12 13");
        });
        Hand.promise(7, "0: home", () -> {
            Hand.due("cheaper", way(Hand.land("rab5;jab*1/4"), 0, 0), "0: ");
            Hand.due("dearer", way(Hand.land("rab5;jab*1/6"), 0, 0), "1: 0");
            Hand.due("home worth 0 is one", way(Hand.land("rab1;jab*1/0"), 0, 0), "0: ");
            Hand.due("home of 999", way(Hand.land("rab99+9;jab*1w9/999"), 0, 9), "1: 0");
            Hand.due("of equal pains the fewest roads: none", way(Hand.land("rab5;jab*1/5"), 0, 0), "0: ");
        });
        Hand.promise(7, "0: none", () -> {
            Hand.due("no road", way(Hand.land("jab*1"), 0, 0), "0: ");
            Hand.due("no road there", way(Hand.land("rac1;rbd1;jab*1"), 0, 0), "0: ");
            Hand.due("none it knows", way(Hand.land("rab1;jab*1s0"), 0, 0), "0: ");
        });
        Hand.promise(7, "a slow one knows roads below a number alone", () -> {
            TollsThatPay x = Hand.land("rab9;rab5;rab1;jab*1s0;jab*1s1;jab*1s2;jab*1s3;jab*1s4", "jab*1s999;jab*1");
            Hand.due("s0", way(x, 0, 0), "0: ");
            Hand.due("s1", way(x, 1, 0), "1: 0");
            Hand.due("s2", way(x, 2, 0), "1: 1");
            Hand.due("s3", way(x, 3, 0), "1: 2");
            Hand.due("s4", way(x, 4, 0), "1: 2");
            Hand.due("s999", way(x, 5, 0), "1: 2");
            Hand.due("not slow", way(x, 6, 0), "1: 2");
            Hand.tell(x, "rab0");
            Hand.due("s3, and a new road", way(x, 3, 0), "1: 2");
            Hand.due("s4, and a new road", way(x, 4, 0), "1: 3");
        });
        Hand.promise(7, "pains of a road: cost, worth times hours, and toll", () -> {
            TollsThatPay x = Hand.land("rab0+9;rab80;tab70;jab*1w9;jab*1w8;jab*1;m20");
            x.toll(2, 11);
            Hand.due("81, 80, 81", way(x, 0, 9), "1: 1");
            Hand.due("72, 80, 81", way(x, 1, 8), "1: 0");
            Hand.due("0, 80, 81", way(x, 2, 0), "1: 0");
            x.toll(2, 9);
            Hand.due("81, 80, 79", way(x, 0, 9), "1: 2");
            x.toll(2, 1);
            Hand.due("72, 80, 71", way(x, 1, 8), "1: 2");
        });
        Hand.promise(7, "by lean 0 the greatest sum of tolls, by lean 1 the least", () -> {
            TollsThatPay x = Hand.land("rab4;tac0;ucb0;tab1;jab*1");
            Hand.ask(x, 1, 3, 3);
            Hand.due("sums 0, 4 of both houses, 3", way(x, 0, 0), "2: 1 2");
            x.lean(1);
            Hand.due("the least", way(x, 0, 0), "1: 0");
            Hand.ask(x, 1, 2, 3);
            Hand.due("least pains go ahead", way(x, 0, 0), "2: 1 2");
            x.lean(0);
            Hand.due("least pains go ahead", way(x, 0, 0), "2: 1 2");
        });
        Hand.promise(7, "a toll as dear as home", () -> {
            TollsThatPay x = Hand.land("tab1;jab*1/4");
            x.toll(0, 3);
            Hand.due("lean 0", way(x, 0, 0), "1: 0");
            x.lean(1);
            Hand.due("lean 1", way(x, 0, 0), "0: ");
            x.toll(0, 2);
            Hand.due("lean 1, cheaper", way(x, 0, 0), "1: 0");
        });
        Hand.promise(7, "of these the fewest roads", () -> {
            Hand.due("one", way(Hand.land("rac1;rcb1;rab2;jab*1"), 0, 0), "1: 2");
            TollsThatPay x = Hand.land("tac0;tcb0;tab1;jab*1");
            Hand.ask(x, 1, 1, 1);
            Hand.due("sums of 2 and 1", way(x, 0, 0), "2: 0 1");
            Hand.ask(x, 1, 1, 2);
            Hand.due("2 and 3", way(x, 0, 0), "2: 0 1");
            x = Hand.land("tac0;tcb0;tab0;jab*1");
            Hand.ask(x, 1, 2, 3);
            Hand.due("sums of 3 and 3", way(x, 0, 0), "1: 2");
            x.lean(1);
            Hand.due("sums of 3 and 3, lean 1", way(x, 0, 0), "1: 2");
        });
        Hand.promise(7, "then the first row by numbers of roads", () -> {
            Hand.due("the first", way(Hand.land("rab1;rab1;jab*1"), 0, 0), "1: 0");
            Hand.due("0 5 ahead of 1 2", way(Hand.land("rac0;rad0;rdb0;rab9;rab9;rcb0;jab*1"), 0, 0), "2: 0 5");
            Hand.due("0 2 ahead of 0 3", way(Hand.land("rac0;rab9;rcb0;rcb0;jab*1"), 0, 0), "2: 0 2");
            Hand.due("rows are those from its one corner", way(Hand.land("rcb0;rdb0;rad0;rac0;jab*1;jba*1"), 0, 0), "2: 2 1");
            Hand.due("and back", way(Hand.land("rcb0;rdb0;rad0;rac0;jab*1;jba*1"), 1, 0), "2: 0 3");
            TollsThatPay x = Hand.land("rab9;tab0;uab0;jab*1");
            Hand.ask(x, 2, 2);
            Hand.due("tolled alike", way(x, 0, 0), "1: 1");
        });
        Hand.promise(7, "the row is empty then", () -> {
            TollsThatPay x = Hand.land("rab5;jab*1/4;jcd*1");
            x.times(0);
            Hand.due("home", way(x, 0, 0), "0: ");
            x.times(0);
            Hand.due("none", way(x, 1, 0), "0: ");
        });
    }

    private static void pains() {
        refusedOfGoers(8, "pains", (x, j, w) -> x.pains(j, w));
        Hand.promise(8, "by the way it takes", () -> {
            TollsThatPay x = Hand.land(SIX);
            Hand.due("plain", x.pains(0, 0), 2);
            Hand.due("worth 3", x.pains(1, 3), 5);
            Hand.due("a crowd's least", x.pains(2, 2), 4);
            Hand.due("a crowd's greatest", x.pains(2, 4), 6);
            x.toll(0, 6);
            Hand.due("with toll", x.pains(0, 0), 8);
            Hand.due("as dear", x.pains(1, 3), 9);
            Hand.due("dearer", x.pains(2, 4), 9);
        });
        Hand.promise(8, "home's", () -> {
            Hand.due("home", Hand.land(SIX).pains(3, 0), 1);
            Hand.due("home alone", Hand.land(SIX).pains(5, 0), 7);
            Hand.due("home of 0", Hand.land("jab*1/0").pains(0, 0), 0);
            Hand.due("home of 999", Hand.land("jab*1/999").pains(0, 0), 999);
        });
        Hand.promise(8, "no way at all: pains 0", () -> Hand.due("none", Hand.land(SIX).pains(4, 0), 0));
        Hand.promise(8, "the greatest pains", () -> {
            TollsThatPay x = Hand.land("tab99+9;tbc99+9;ucd99+9;ude99+9;uef99+9;m20", "rfg99+9;rgh99+9;jah*99w9");
            Hand.ask(x, 20, 20, 20, 20, 20);
            Hand.due("7 roads", x.pains(0, 9), 7 * (99 + 81) + 5 * 20);
            Hand.due("suffered()", x.suffered(), 99 * (7 * (99 + 81) + 5 * 20));
        });
    }

    private static void rooms() {
        refusedOfGoers(9, "room", (x, j, w) -> x.room(j, w));
        Hand.promise(9, "the least pains by any other way, less its pains", () -> {
            TollsThatPay x = Hand.land("tab0;rab7;rab5;jab*1;jab*1/3");
            Hand.due("the cheapest other", x.room(0, 0), 5);
            Hand.due("or stay", x.room(1, 0), 3);
            x.toll(0, 2);
            Hand.due("asked 2", x.room(0, 0), 3);
            x.toll(0, 3);
            Hand.due("nothing more", x.room(1, 0), 0);
            x.toll(0, 5);
            Hand.due("nothing more", x.room(0, 0), 0);
        });
        Hand.promise(9, "another way that has not all its tolled roads", () -> {
            Hand.due("has all", Hand.land("tab0;rbc0;rbc3;rac9;jac*1").room(0, 0), 9);
            Hand.due("has one of two", Hand.land("tab0;tbc0;rbc3;rac9;jac*1").room(0, 0), 3);
            Hand.due("has all, and one more", Hand.land("tab0;rbc4;tbd0;rdc5;jac*1;rac9").room(0, 0), 5);
            Hand.due("of the other house", Hand.land("tab0;ubc0;rbc3;rac9;jac*1").room(0, 0), 3);
            Hand.due("by another tolled road", Hand.land("tab0;tab2;jab*1").room(0, 0), 2);
            TollsThatPay x = Hand.land("tab0;tab2;jab*1");
            x.toll(1, 4);
            Hand.due("with its toll", x.room(0, 0), 6);
        });
        Hand.promise(9, "0: another way of no pains", () -> {
            Hand.due("free beside", Hand.land("tab0;rab0;tab5;jab*1").room(0, 0), 0);
            Hand.due("tolled beside", Hand.land("tab0;tab0;tab5;jab*1").room(0, 0), 0);
        });
        Hand.promise(9, "ways that it does not know are none", () ->
            Hand.due("slow", Hand.land("tab0;rab4;rab2;jab*1s2").room(0, 0), 4));
        Hand.promise(9, "-2: there is no such way", () -> {
            Hand.due("the only way", Hand.land("tab1;jab*1").room(0, 0), -2);
            Hand.due("all have them", Hand.land("tab0;rbc0;rbc4;jac*1").room(0, 0), -2);
            Hand.due("none is known", Hand.land("tab0;rab4;jab*1s1").room(0, 0), -2);
        });
        Hand.promise(9, "-2: its own has no tolled roads", () -> {
            Hand.due("free", Hand.land("rab0;tab1;jab*1").room(0, 0), -2);
            Hand.due("home", Hand.land("tab5;jab*1/2").room(0, 0), -2);
            Hand.due("no way", Hand.land("tcd5;jab*1").room(0, 0), -2);
        });
        Hand.promise(9, "a toll of 0 is a tolled road's too", () -> Hand.due("room", Hand.land("tab0;rab1;jab*1;m0").room(0, 0), 1));
        Hand.promise(9, "the row stays", () -> {
            TollsThatPay x = Hand.land("tab0;rab2;jab*1;jcd*1");
            x.best(0);
            x.room(0, 0);
            x.room(1, 0);
            Hand.due("row", Hand.row(x), "2");
        });
    }

    private static void takes() {
        Hand.promise(10, "none: no such house", () -> Hand.refusedOfHouses("take", (x, h) -> x.take(h)));
        Hand.promise(10, "many times the tolls of its roads, of all goers", () -> {
            TollsThatPay x = Hand.land("tab0;ubc0;tcd0;jad*3;jab*99;jcd*2c0-5;jef*7;jab*1/0");
            Hand.ask(x, 1, 4, 2);
            Hand.due("house 0", x.take(0), 3 * 3 + 99 + 2 * 6 * 2);
            Hand.due("house 1", x.take(1), 3 * 4);
        });
        Hand.promise(10, "those who stay or go free pay nothing", () -> {
            TollsThatPay x = Hand.land("tab0;rab2;jab*1;jab*1/1");
            x.toll(0, 3);
            Hand.due("take(0)", x.take(0), 0);
            x.toll(0, 2);
            Hand.due("one", x.take(0), 2);
            x.toll(0, 1);
            Hand.due("both", x.take(0), 2);
            x.lean(1);
            Hand.due("one stays by lean 1", x.take(0), 1);
        });
        Hand.promise(10, "the greatest take", () -> {
            TollsThatPay x = Hand.land("tab0;tbc0;tcd0;tde0;tef0;m20", Hand.times("jaf*99c0-5", 5), Hand.times("jaf*99c0-5", 3));
            Hand.ask(x, 20, 20, 20, 20, 20);
            Hand.due("take(0)", x.take(0), 8 * 6 * 99 * 100);
            Hand.due("suffered()", x.suffered(), 8 * 6 * 99 * 100);
        });

        Hand.promise(11, "many times pains, of all goers", () -> {
            TollsThatPay x = Hand.land("rab2+1;tcd0;jab*3c1-2;jab*5/1;jef*9;jcd*2;jef*4/999");
            x.toll(1, 6);
            Hand.due("suffered()", x.suffered(), 3 * 3 + 3 * 4 + 5 + 0 + 2 * 6 + 4 * 999);
        });
        Hand.promise(11, "none: 0", () -> Hand.due("suffered()", Hand.land("tab9;rab9").suffered(), 0));

        Hand.promise(12, "how many go by a road", () -> {
            TollsThatPay x = Hand.land("rab1;tbc1;rac9+1;jac*4c0-1;jbc*99;jab*1;jab*7/0");
            Hand.due("by(0)", x.by(0), 9);
            Hand.due("by(1)", x.by(1), 107);
            Hand.due("none goes", x.by(2), 0);
        });
        Hand.promise(12, "each road of a long way", () -> {
            TollsThatPay x = Hand.land(Hand.times("rah99", 7), "rab1;rbc1;rcd1;rde1;ref1;rfg1;rgh1;jah*2;jha*3");
            for (int road = 0; road < 14; road++) {
                Hand.due("by(" + road + ")", x.by(road), road < 7 ? 0 : 5);
            }
        });
        Hand.promise(12, "of the tolls of now, whatever was asked ahead", () -> {
            TollsThatPay x = Hand.land("tab0;rab2;jab*3");
            x.toll(0, 4);
            for (int i = 0; i < 2; i++) {
                x.best(0);
                Hand.due("by", x.by(0) + " " + x.by(1), "0 3");
                x.best(0);
                Hand.due("way", way(x, 0, 0), "1: 1");
                x.best(0);
                Hand.due("pains", x.pains(0, 0), 2);
                x.best(0);
                Hand.due("room", x.room(0, 0), -2);
                x.best(0);
                Hand.due("take", x.take(0), 0);
                x.best(0);
                Hand.due("suffered", x.suffered(), 6);
                x.spare(0, 1);
            }
        });
        Hand.promise(12, "the last road of 14", () -> {
            TollsThatPay x = Hand.land(Hand.times("rab9", 12), "rab9;rab0;jab*5");
            Hand.due("by(13)", x.by(13), 5);
            Hand.due("by(14)", x.by(14), -1);
        });
        Hand.promise(12, "none: no such road", () -> {
            int[] bad = {-1, 2, 14, 31, 32, Integer.MIN_VALUE, Integer.MAX_VALUE};
            for (int road : bad) {
                Hand.refused("tab1;rab2;jab*3", "by(" + road + ")", x -> x.by(road));
            }
        });
    }

    private static void counts() {
        Hand.promise(13, "home, too", () -> {
            Hand.due("home alone", Hand.land("jab*1/0").ways(0), 1);
            Hand.due("and a road", Hand.land("rab1;jab*1/5").ways(0), 2);
            Hand.due("no home", Hand.land("rab1;jab*1").ways(0), 1);
            Hand.due("none", Hand.land("jab*1").ways(0), 0);
        });
        Hand.promise(13, "no corner twice", () -> {
            TollsThatPay x = Hand.land("rab1;rbc1;rca1;rbd1;rdb1;rbd2;jab*1;jac*1;jad*1;jba*1");
            Hand.due("to b", x.ways(0), 2);
            Hand.due("to c", x.ways(1), 2);
            Hand.due("to d", x.ways(2), 2 * 3);
            Hand.due("back", x.ways(3), 2);
        });
        Hand.promise(13, "of roads that it knows", () -> {
            TollsThatPay x = Hand.land("rab1;rab1;rab1;jab*1s0;jab*1s1;jab*1s2;jab*1s3;jab*1s9");
            Hand.due("s0", x.ways(0), 0);
            Hand.due("s1", x.ways(1), 1);
            Hand.due("s2", x.ways(2), 2);
            Hand.due("s3", x.ways(3), 3);
            Hand.due("s9", x.ways(4), 3);
        });
        Hand.promise(13, "8 journeys, of corners up to h", () -> {
            TollsThatPay x = Hand.land("rgh1;" + Hand.times("jgh*1", 4), Hand.times("jhg*1", 4));
            Hand.due("the last one", x.ways(7), 1);
            Hand.due("none", x.ways(8), -1);
        });
        Hand.promise(13, "a crowd's ways are those of the journey", () -> Hand.due("ways", Hand.land("rab1;rab1+1;jab*9c0-5").ways(0), 2));
        Hand.promise(13, "none: no such journey", () -> {
            int[] bad = {-1, 1, 8, 31, 32, Integer.MIN_VALUE, Integer.MAX_VALUE};
            for (int journey : bad) {
                Hand.refused("tab1;rab2;jab*3", "ways(" + journey + ")", x -> x.ways(journey));
            }
        });
    }

    public static void main(String[] args) {
        ways();
        pains();
        rooms();
        takes();
        counts();
        Hand.finish(7, 13);
    }
}
