/** Promises 8 to 12: TIMES, SETTINGS, the ORDER, COVER, RUN. */
public final class TellingTest {
    public static void main(String[] args) {
        times();
        set();
        order();
        cover();
        coverIsHeld();
        run();
        Check.end("TellingTest");
    }

    private static void times() {
        InTheGarden x = Check.garden("pp100;pk150;");
        Check.due("8 was", 0, x.times(2, 99));
        Check.due("8 was told", 99, x.times(2, 3));
        Check.due("8 above", -6, x.times(2, 100));
        Check.due("8 below", -4, x.times(2, -1));
        Check.due("8 the base", -1, x.times(0, 1));
        Check.due("8 nobody first", -1, x.times(3, -1));
        Check.due("8 nothing changed", 3, x.times(2, 0));
        x.times(1, 4);
        x.times(2, 5);
        Check.due("8 all times", 9, x.count(3));
        Check.due("8 refused", 2, x.count(11));
        Check.due("8 refused below", 1, x.count(14));
        Check.due("8 refused above", 1, x.count(16));
    }

    private static void set() {
        InTheGarden x = new InTheGarden();
        int[] first = {40, 0, 5, 0, 0, 300, 1};
        int[] least = {1, 0, 0, 0, 0, 10, 0};
        int[] most = {99, 50, 60, 4, 1, 900, 9};
        for (int what = 0; what < 7; what++) {
            Check.due("9 first " + what, first[what], x.set(what, least[what]));
            Check.due("9 below " + what, -4, x.set(what, least[what] - 1));
            Check.due("9 above " + what, -6, x.set(what, most[what] + 1));
            Check.due("9 least " + what, least[what], x.set(what, most[what]));
            Check.due("9 most " + what, most[what], x.set(what, least[what]));
        }
        Check.due("9 other", -2, x.set(7, -1));
        Check.due("9 other below", -2, x.set(-1, 99));
        Check.due("9 refused -2", 2, x.count(12));
        Check.due("9 refused -4", 7, x.count(14));
        Check.due("9 refused -6", 7, x.count(16));
    }

    private static void order() {
        InTheGarden x = Check.garden("pp100;pp100;pp900;w01,4;w02,3;w03,9;h9,5;");
        x.set(2, 60);
        Check.due("10 had none", 0, x.order(2, 31));
        Check.due("10 has", 2, x.count(4));
        Check.due("10 had two", 2, x.order(8, 33333333));
        Check.due("10 had eight", 8, x.order(0, 77));
        Check.due("10 had none again", 0, x.order(1, 991));
        Check.due("10 the base", -1, x.order(2, 1));
        Check.due("10 not there", -1, x.order(3, 412));
        Check.due("10 negative", -1, x.order(1, -1));
        Check.due("10 below first", -4, x.order(-1, 9));
        Check.due("10 above first", -6, x.order(9, 9));
        Check.due("10 nothing changed", 1, x.order(2, 32));
        // HIDER 0 hides at 1 (FIRST), HIDER 1 at 2 and so on would be; only 1 is looked into here, at 4.
        x.order(1, 1);
        Check.due("10 goes to 1", 1, x.mind(0, 0));
        Check.due("10 at once", 4, x.mind(0, 3));
        // The lowest digit first: 2 (SECOND 3), back over THE BASE (7), then 1 (12).
        x.order(2, 12);
        Check.due("10 the lowest first", 12, x.mind(0, 3));
        x.order(2, 21);
        Check.due("10 the other way", 4, x.mind(0, 3));
        Check.due("10 refused -1", 3, x.count(11));
        Check.due("10 refused -4", 1, x.count(14));
        Check.due("10 refused -6", 1, x.count(16));
    }

    private static void cover() {
        InTheGarden x = Check.garden("pp251;pk252;ps253;pg255;pm257;pn258;ph259;");
        x.set(1, 20);
        for (int place = 1; place <= 7; place++) {
            x.times(place, 3);
        }
        int[] due = {51, 37, 63, 55, 57, 38, 59};
        for (int place = 1; place <= 7; place++) {
            Check.due("11 cover of " + place, due[place - 1], x.cover(place, 0, 1));
        }
        Check.due("11 shared by two", 27, x.cover(4, 0, 2));
        Check.due("11 shared by none", 55, x.cover(4, 0, 0));
        Check.due("11 not shared by two", 51, x.cover(1, 0, 2));
        Check.due("11 moved, odd", 28, x.cover(5, 999, 1));
        Check.due("11 moved, even", 57, x.cover(5, 998, 9));
        Check.due("11 not moved, odd", 59, x.cover(7, 1, 1));
        Check.due("11 the base", -1, x.cover(0, 0, 0));
        Check.due("11 nobody first", -1, x.cover(8, -1, 0));
        Check.due("11 below", -4, x.cover(1, -1, 10));
        Check.due("11 below too", -4, x.cover(1, 1000, -1));
        Check.due("11 above", -6, x.cover(1, 1000, 0));
        Check.due("11 above too", -6, x.cover(1, 0, 10));
        InTheGarden y = Check.garden("pd155;");
        Check.due("11 dusky", 65, y.cover(1, 0, 1));
        y.set(1, 7);
        Check.due("11 dusky at dusk", 72, y.cover(1, 0, 1));
    }

    private static void coverIsHeld() {
        InTheGarden x = Check.garden("ps195;pd170;pk110;pn112;pp199;pp100;pn104;");
        x.set(1, 50);
        Check.due("11 held to 99", 99, x.cover(1, 0, 1));
        Check.due("11 dusky held to 99", 99, x.cover(2, 0, 1));
        x.times(3, 2);
        Check.due("11 down to 0", 0, x.cover(3, 0, 1));
        x.times(3, 99);
        Check.due("11 held to 0", 0, x.cover(3, 0, 1));
        x.times(4, 1);
        Check.due("11 near", 2, x.cover(4, 0, 1));
        x.times(4, 2);
        Check.due("11 near held to 0", 0, x.cover(4, 0, 1));
        Check.due("11 most", 99, x.cover(5, 0, 1));
        Check.due("11 least", 0, x.cover(6, 0, 1));
        Check.due("11 near from the start", 0, x.cover(7, 0, 1));
    }

    private static void run() {
        InTheGarden x = Check.garden("pp100;ph100;pp100;ph100;w01,1;w02,25;h9,5;h9,9;h9,1;", "h9,6;");
        Check.due("12 slow", 1, x.run(2, 1));
        Check.due("12 1 at least", 1, x.run(1, 1));
        Check.due("12 high", 30, x.run(0, 2));
        Check.due("12 high and fast", 5 + 17, x.run(1, 2));
        Check.due("12 high and slow", 5 + 41, x.run(2, 2));
        Check.due("12 cut", 5 + 22, x.run(3, 2));
        Check.due("12 none", -9, x.run(0, 3));
        Check.due("12 none, high", -9, x.run(0, 4));
        Check.due("12 the base", -1, x.run(0, 0));
        Check.due("12 no place", -1, x.run(0, 5));
        Check.due("12 no hider", -1, x.run(4, 1));
        Check.due("12 no hider below", -1, x.run(-1, 1));
        Check.due("12 refused", 4, x.count(11));
        Check.due("12 a place that comes later", 2, Check.tell(x, "pp100;w15,19;"));
        Check.due("12 its run", 20, x.run(0, 5));
    }
}
