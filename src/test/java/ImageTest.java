/** Promises 27 to 31: the ROW, THE IMAGE, what is counted. */
public final class ImageTest {
    public static void main(String[] args) {
        row();
        judge();
        judgeFreedOnes();
        image();
        imageOfAnOlderGarden();
        imageHoldsNoMore();
        count();
        Check.end("ImageTest");
    }

    private static void row() {
        InTheGarden x = new InTheGarden();
        for (int i = 1; i <= 8; i++) {
            Check.due("27 how many", i, x.row(i == 1 ? 0 : 9));
        }
        Check.due("27 full", -6, x.row(0));
        Check.due("27 below first", -4, x.row(-1));
        Check.due("27 has", 8, x.count(5));
        Check.due("28 no round", -3, x.judge());
        Check.due("28 it stays", 8, x.count(5));
        x.round(0);
        Check.due("28 too long from the start", 0, x.judge());
        Check.due("28 has none then", 0, x.count(5));
        Check.due("27 above", -6, x.row(10));
        Check.due("27 again", 1, x.row(5));
    }

    /** Found: 2 at SECOND 0 (no room), 1 at 4, 0 at 9. */
    private static InTheGarden threeFound() {
        InTheGarden x = Check.garden("pp100;pp100;w01,9;w12,4;w02,4;h9,5;h9,5;h9,5;");
        x.order(1, 1);
        x.set(2, 60);
        Check.due("28 three", 3, x.round(0));
        return x;
    }

    private static void judged(InTheGarden x, int due, int... finds) {
        for (int find : finds) {
            x.row(find);
        }
        Check.due("28 row of " + finds.length, due, x.judge());
        Check.due("28 row has none then", 0, x.count(5));
    }

    private static void judge() {
        InTheGarden x = threeFound();
        judged(x, -9, 2, 1, 0);
        judged(x, 0);
        judged(x, 1, 2);
        judged(x, 2, 2, 1);
        judged(x, 0, 1, 2, 0);
        judged(x, 1, 2, 0, 1);
        judged(x, 2, 2, 1, 9);
        judged(x, 3, 2, 1, 0, 0);
        judged(x, 3, 2, 1, 0, 1, 2, 3, 4, 5);
        judged(x, 1, 2, 2);
        InTheGarden none = new InTheGarden();
        none.round(0);
        judged(none, -9);
        judged(none, 0, 0);
    }

    private static void judgeFreedOnes() {
        InTheGarden x = Check.garden("pp100;pp100;pp000;w01,5;w02,15;w13,20;h10,5;h10,5;");
        x.order(2, 31);
        x.set(4, 1);
        Check.due("28 all are free", 0, x.round(0));
        judged(x, -9, 0);
        judged(x, 0);
    }

    private static void image() {
        InTheGarden x = threeFound();
        x.times(2, 40);
        Check.due("30 none yet", -3, x.on());
        Check.due("29 places", 3, x.image());
        Check.tell(x, "pp100;w23,1;v12;h3,3;");
        x.times(1, 7);
        x.set(0, 1);
        x.set(6, 9);
        x.order(3, 333);
        x.round(9);
        x.round(9);
        Check.due("30 places", 3, x.on());
        Check.due("30 garden", 3, x.count(0));
        Check.due("30 ways", 3, x.count(1));
        Check.due("30 hiders", 3, x.count(2));
        Check.due("30 sees", 0, x.sees(1, 2));
        Check.due("30 times", 1, x.place(1, 3));
        Check.due("30 times told", 40, x.place(2, 3));
        Check.due("30 order", 1, x.count(4));
        Check.due("30 played", 1, x.count(7));
        Check.due("30 count", 40, x.set(0, 40));
        Check.due("30 look", 1, x.set(6, 1));
        Check.due("30 where", 1, x.of(0, 0));
        Check.due("30 when", 9, x.of(0, 2));
        Check.due("30 how", 0, x.of(0, 1));
        Check.due("30 where the last hid", 0, x.of(2, 0));
        Check.due("30 found", 2, x.found(0));
        judged(x, -9, 2, 1, 0);
        Check.due("30 a round as then", 3, x.mind(0, 0));
        Check.due("30 what came is not there", -1, x.place(3, 0));
        Check.due("30 and comes anew", 3, Check.tell(x, "pk177;w23,4;v12;"));
        Check.due("30 its kind", 1, x.place(3, 0));
        Check.due("30 its times", 0, x.place(3, 3));
        Check.due("30 its far", 8, x.far(0, 3));
        Check.due("30 again", 3, x.on());
        Check.due("30 is as then again", 3, x.count(1));
        Check.due("29 a later one", 3, x.image());
    }

    private static void imageOfAnOlderGarden() {
        InTheGarden x = Check.garden("pp100;w01,5;h9,5;");
        Check.due("29 places", 2, x.image());
        x.round(0);
        x.on();
        Check.due("30 no round as then", -3, x.found(0));
        Check.due("30 none of a hider", -3, x.of(0, 0));
        Check.due("30 none to judge", -3, x.judge());
        Check.due("30 none played", 0, x.count(7));
        x.round(0);
        x.image();
        Check.tell(x, "pp100;");
        Check.due("29 taken anew", 3, x.image());
        Check.due("30 on from the new one", 3, x.on());
        Check.due("30 and its round", 1, x.of(0, 0));
        Check.due("30 as it ended", 2, x.of(0, 1));
        x.set(0, 1);
        x.round(0);
        Check.due("30 ended otherwise", 0, x.of(0, 1));
        x.on();
        Check.due("30 as it ended again", 2, x.of(0, 1));
        Check.due("30 when it ended", 300, x.of(0, 2));
        Check.tell(x, "h3,3;");
        x.round(0);
        x.on();
        Check.tell(x, "h4,4;");
        Check.due("30 one that came behind that round", -3, x.of(1, 0));
    }

    private static void imageHoldsNoMore() {
        InTheGarden x = new InTheGarden();
        x.image();
        x.feed(3, 0);
        x.row(1);
        x.row(12);
        Check.due("30 on", 1, x.on());
        Check.due("30 the tape stays", 3, x.count(6));
        Check.due("30 the row stays", 1, x.count(5));
        Check.due("30 refusals stay", 1, x.count(16));
    }

    private static void count() {
        InTheGarden x = Check.garden("pp100;pp100;w01,9;h9,5;h9,5;h9,5;");
        x.times(1, 3);
        x.times(2, 4);
        x.order(2, 12);
        x.row(3);
        x.feed(7, 0);
        x.round(0);
        x.round(0);
        x.set(9, 9);
        int[] due = {3, 1, 3, x.place(1, 3) + x.place(2, 3), 2, 1, 7, 2};
        for (int what = 0; what < 8; what++) {
            Check.due("31 count " + what, due[what], x.count(what));
        }
        for (int what : new int[] {-1, 8, 9, 10, 17, Integer.MIN_VALUE, Integer.MAX_VALUE}) {
            Check.due("31 another", -9, x.count(what));
        }
        Check.due("31 is no refusal", 1, x.count(11) + x.count(12) + x.count(13) + x.count(14) + x.count(15) + x.count(16));
        x.place(9, 0);
        x.on();
        x.row(-1);
        x.row(10);
        Check.due("31 -1", 1, x.count(11));
        Check.due("31 -2", 1, x.count(12));
        Check.due("31 -3", 1, x.count(13));
        Check.due("31 -4", 1, x.count(14));
        Check.due("31 -5", 0, x.count(15));
        Check.due("31 -6", 1, x.count(16));
    }
}
