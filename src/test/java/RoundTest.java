/** Promises 13 to 16: ROUNDS, played and in mind. */
public final class RoundTest {
    public static void main(String[] args) {
        runsOrIsFound();
        whoHasNoPlace();
        rules();
        lots();
        friend();
        draws();
        sharedByWhoHidesStill();
        theWay();
        leftOutAndPassedOver();
        looksAtTheBase();
        freesAll();
        patience();
        highOnesLeaveLate();
        timesGrow();
        timesGrowAnew();
        fullGarden();
        mindChangesNothing();
        refusals();
        Check.end("RoundTest");
    }

    private static void ended(InTheGarden x, int hider, int where, int how, int when) {
        Check.due("15 where hid " + hider, where, x.of(hider, 0));
        Check.due("15 how ended " + hider, how, x.of(hider, 1));
        Check.due("15 when " + hider, when, x.of(hider, 2));
    }

    private static void runsOrIsFound() {
        InTheGarden x = Check.garden("pp900;w01,10;h10,5;");
        Check.due("13 no order: nobody is found", 0, x.round(1));
        ended(x, 0, 1, 2, 300);
        Check.due("16 none found", -9, x.found(0));
        x.order(1, 1);
        // BACK is 20 as she sets out, RUN 10: with MARGIN 9 it runs, with 10 it does not.
        x.set(2, 9);
        Check.due("13 it runs", 0, x.round(1));
        ended(x, 0, 1, 1, 10);
        Check.due("14 free", 1, x.mind(1, 1));
        Check.due("14 last second", 10, x.mind(1, 3));
        Check.due("16 nobody found", -9, x.found(0));
        x.set(2, 10);
        Check.due("13 it is found", 1, x.round(1));
        ended(x, 0, 1, 0, 10);
        Check.due("16 the first", 0, x.found(0));
        Check.due("16 no second", -9, x.found(1));
        Check.due("13 rounds", 3, x.count(7));
        Check.due("13 times grew once", 1, x.place(1, 3));
        Check.due("14 found", 1, x.mind(1, 0));
        Check.due("14 free none", 0, x.mind(1, 1));
        Check.due("14 won none", 0, x.mind(1, 2));
    }

    private static void whoHasNoPlace() {
        InTheGarden x = Check.garden("pp100;pp900;pp900;w01,11;w03,12;h10,6;h10,6;h10,6;");
        x.set(0, 10);
        // 110 by 11 is 10 and 120 by 11 is 10, cut: both near enough; 2 can not be come to.
        Check.due("13 nobody is without", 0, x.mind(0, 0));
        x.set(0, 9);
        Check.due("13 all are without", 3, x.round(0));
        for (int h = 0; h < 3; h++) {
            ended(x, h, 0, 0, 0);
            Check.due("16 at second 0, too", h, x.found(h));
        }
        Check.due("14 the last second is 0", 0, x.mind(0, 3));
        Check.due("13 no times", 0, x.count(3));
        x.set(0, 40);
        x.round(0);
        ended(x, 0, 1, 2, 300);
        ended(x, 1, 3, 2, 300);
        InTheGarden y = Check.garden("pp100;w01,5;h10,5;h10,5;");
        y.set(4, 1);
        Check.due("13 no room for the second", 1, y.round(0));
        ended(y, 0, 1, 2, 300);
        ended(y, 1, 0, 0, 0);
        Check.due("13 room 0 is none", 1, Check.garden("pp000;w01,5;h10,5;").round(0));
    }

    private static void spots(InTheGarden x, int rule, int... due) {
        x.set(3, rule);
        x.round(5);
        for (int h = 0; h < due.length; h++) {
            Check.due("13 rule " + rule + ", hider " + h, due[h], x.of(h, 0));
        }
    }

    private static void rules() {
        InTheGarden x = Check.garden("pp120;pp250;pp140;pp150;w01,5;w02,7;w03,9;w04,9;", "h9,5;h9,5;h9,5;h9,5;h9,5;h9,5;");
        spots(x, 0, 1, 2, 2, 3, 4, 0);
        spots(x, 1, 2, 2, 4, 3, 1, 0);
        spots(x, 2, 3, 4, 2, 2, 1, 0);
        spots(x, 4, 1, 2, 2, 3, 4, 0);
    }

    private static void lots() {
        InTheGarden x = Check.garden("pp120;pp250;pp140;w01,5;w02,7;w03,9;", "h9,5;h9,5;h9,5;h9,5;h9,5;");
        x.set(3, 3);
        for (int seed = -20; seed < 20; seed++) {
            Draws draws = new Draws(seed * 77777777);
            x.round(seed * 77777777);
            int[] left = {0, 1, 2, 1};
            for (int h = 0; h < 4; h++) {
                int open = (left[1] > 0 ? 1 : 0) + (left[2] > 0 ? 1 : 0) + (left[3] > 0 ? 1 : 0);
                int at = draws.below(open);
                int place = 0;
                for (int p = 1; p <= 3 && place == 0; p++) {
                    if (left[p] > 0 && at-- == 0) {
                        place = p;
                    }
                }
                left[place]--;
                Check.due("13 lots " + seed + ", hider " + h, place, x.of(h, 0));
            }
            Check.due("13 lots, none left", 0, x.of(4, 0));
        }
    }

    private static void friend() {
        // Place 1 is too far for the slow one (300 by 6), not for the fast ones.
        InTheGarden x = Check.garden("pp930;pp230;w01,30;w02,5;h9,1;h9,9;h9,9;h9,9;");
        spots(x, 0, 2, 1, 1, 1);
        spots(x, 4, 2, 2, 1, 1);
        InTheGarden y = Check.garden("pp930;pp230;w01,30;w02,5;h9,9;h9,1;h9,9;h9,1;", "h9,1;h9,9;");
        // The slow ones may not follow to 1; the last but one has no place, so the last goes as FIRST.
        spots(y, 4, 1, 2, 2, 0, 0, 1);
    }

    private static boolean seen(int seed, int cover) {
        return new Draws(seed).below(100) >= cover;
    }

    private static void drawsAgainst(String what, InTheGarden x, int cover) {
        x.set(2, 60);
        int found = 0;
        for (int seed = 0; seed < 200; seed++) {
            Check.due("13 " + what + ", seed " + seed, seen(seed, cover) ? 1 : 0, x.mind(seed, 0));
            found += seen(seed, cover) ? 1 : 0;
        }
        Check.isTrue("13 " + what + ": both happen", cover == 0 || found > 0 && found < 200);
    }

    private static InTheGarden lookedAt(String place, String age, int order) {
        InTheGarden x = Check.garden(place + "pp000;w02,5;w01,40;v21;h" + age + ",5;");
        x.order(1, order);
        return x;
    }

    private static void draws() {
        drawsAgainst("from afar", lookedAt("pp150;", "10", 2), 50);
        drawsAgainst("age 6", lookedAt("pp150;", "6", 2), 50);
        drawsAgainst("age 5", lookedAt("pp150;", "5", 2), 40);
        drawsAgainst("age 2, little cover", lookedAt("pp109;", "2", 2), 0);
        drawsAgainst("in the place itself", lookedAt("pp151;", "10", 1), 25);
        drawsAgainst("in the place itself, age 5", lookedAt("pp151;", "5", 1), 20);
        drawsAgainst("moved at an odd second", lookedAt("pm151;", "10", 2), 25);
        drawsAgainst("shared by one", lookedAt("pg151;", "10", 2), 51);
        InTheGarden known = lookedAt("pk151;", "10", 2);
        known.times(1, 3);
        drawsAgainst("known", known, 36);
        InTheGarden dusky = lookedAt("pd131;", "10", 2);
        dusky.set(1, 9);
        drawsAgainst("dusky", dusky, 50);
        InTheGarden even = Check.garden("pm151;pp000;w02,6;w01,40;v21;h10,5;");
        even.order(1, 2);
        drawsAgainst("moved at an even second", even, 51);
    }

    private static void sharedByWhoHidesStill() {
        InTheGarden x = Check.garden("pg961;pp000;w02,6;w01,40;v21;h10,5;h10,5;h10,5;");
        x.order(1, 2);
        x.set(2, 60);
        for (int seed = 0; seed < 100; seed++) {
            Draws draws = new Draws(seed);
            int hiding = 3;
            for (int h = 0; h < 3; h++) {
                hiding -= draws.below(100) >= (hiding >= 2 ? 30 : 61) ? 1 : 0;
            }
            Check.due("13 shared, seed " + seed, 3 - hiding, x.mind(seed, 0));
        }
    }

    private static void theWay() {
        InTheGarden x = Check.garden("pp000;pp000;pp900;w01,4;w12,3;w23,2;h10,9;");
        x.order(1, 3);
        x.set(2, 60);
        int[] due = {9, 11, 13, 15};
        for (int look = 0; look < 4; look++) {
            x.set(6, look);
            Check.due("13 looks on the way, too: " + look, due[look], x.mind(3, 3));
        }
        // Of two least ways the one by the least PLACE: 1 is come to, 2 is not.
        InTheGarden y = Check.garden("pp100;pp100;pp000;w02,5;w23,5;w01,5;w13,5;h10,5;h10,5;");
        y.order(1, 3);
        y.set(2, 60);
        y.round(0);
        ended(y, 0, 1, 0, 5);
        ended(y, 1, 2, 2, 300);
        // Around is less than straight.
        InTheGarden z = Check.garden("pp100;pp100;w01,9;w12,4;w02,4;h10,5;h10,5;");
        z.order(1, 1);
        z.set(2, 60);
        z.round(0);
        ended(z, 1, 2, 0, 4);
        ended(z, 0, 1, 0, 9);
        Check.due("16 by seconds", 1, z.found(0));
        Check.due("16 then", 0, z.found(1));
    }

    private static void leftOutAndPassedOver() {
        InTheGarden x = Check.garden("pp000;pp900;pp900;w01,4;w02,3;h10,5;");
        x.set(2, 60);
        // 3 can not be come to; 1 again is passed over: 1 at 4, THE BASE at 9, 2 at 13.
        x.order(6, 211331);
        Check.due("13 left out, passed over", 13, x.mind(0, 3));
        x.order(3, 333);
        Check.due("13 she stays", 1, x.mind(0, 2));
        // 1 twice with 2 between: 4, 9, 13 as before; nothing is passed over.
        x.order(3, 121);
        Check.due("13 and back again", 13, x.mind(0, 3));
    }

    private static void looksAtTheBase() {
        InTheGarden x = Check.garden("pp900;pp000;w01,30;w02,4;v01;h10,5;");
        x.set(2, 60);
        Check.due("13 not at second 0", 0, x.mind(0, 0));
        x.order(1, 2);
        Check.due("13 as she comes back", 9, x.mind(0, 3));
        Check.due("13 and finds", 1, x.round(0));
        ended(x, 0, 1, 0, 9);
        Check.due("13 times of its place", 1, x.place(1, 3));
    }

    private static InTheGarden freeing() {
        InTheGarden x = Check.garden("pp100;pp100;pp000;w01,5;w02,15;w13,20;h10,5;h10,5;");
        x.order(2, 31);
        return x;
    }

    private static void freesAll() {
        InTheGarden x = freeing();
        // 0 is found at 5; as she goes on at 6 (BACK 45) 1 runs, and comes at 21.
        Check.due("13 one found", 1, x.round(0));
        ended(x, 0, 1, 0, 5);
        ended(x, 1, 2, 1, 21);
        Check.due("14 ends as nobody hides or runs", 21, x.mind(0, 3));
        x.set(4, 1);
        Check.due("13 all free", 0, x.round(0));
        ended(x, 0, 1, 1, 21);
        ended(x, 1, 2, 1, 21);
        Check.due("16 a freed one, too", 0, x.found(0));
        Check.due("16 no more", -9, x.found(1));
        Check.due("13 times grow all the same", 2, x.place(1, 3));
        Check.due("14 free", 2, x.mind(0, 1));
        // A third that still hides as the runner comes: nobody is freed.
        Check.tell(x, "pp199;w04,40;h10,5;");
        x.set(2, 5);
        x.round(0);
        ended(x, 0, 1, 0, 5);
        ended(x, 1, 2, 1, 21);
        ended(x, 2, 4, 2, 300);
        // One that was without a place is freed, too.
        InTheGarden y = Check.garden("pp000;pp100;w01,30;w02,15;h10,5;h10,5;");
        y.order(1, 1);
        y.set(4, 1);
        Check.due("13 freed from the base", 0, y.round(0));
        ended(y, 0, 2, 1, 15);
        ended(y, 1, 0, 1, 15);
        Check.due("16 it was found", 1, y.found(0));
    }

    private static void patience() {
        InTheGarden x = freeing();
        x.set(5, 20);
        x.round(0);
        ended(x, 1, 2, 2, 20);
        Check.due("14 has won", 1, x.mind(0, 2));
        Check.due("14 last second", 20, x.mind(0, 3));
        x.set(5, 21);
        x.round(0);
        ended(x, 1, 2, 1, 21);
        InTheGarden y = Check.garden("pp900;w01,10;h10,5;");
        y.order(1, 1);
        y.set(2, 60);
        y.set(5, 10);
        Check.due("13 found in the last second", 1, y.mind(0, 0));
        InTheGarden z = Check.garden("pp900;w01,11;h10,5;");
        z.order(1, 1);
        z.set(2, 60);
        z.set(5, 10);
        Check.due("13 not behind it", 0, z.mind(0, 0));
    }

    private static void highOnesLeaveLate() {
        InTheGarden x = Check.garden("ph900;w01,20;h10,5;");
        x.order(1, 1);
        x.set(2, 14);
        Check.due("13 25 and 14 are less than 40", 1, x.mind(0, 1));
        Check.due("13 it comes at 25", 25, x.mind(0, 3));
        x.set(2, 15);
        Check.due("13 25 and 15 are not", 1, x.mind(0, 0));
        x.set(0, 20);
        Check.due("13 leaving does not count for COUNT", 20, x.mind(0, 3));
    }

    private static void timesGrow() {
        InTheGarden x = Check.garden("pk900;w01,10;h10,5;h10,5;");
        x.order(1, 1);
        x.set(2, 60);
        x.round(0);
        Check.due("13 one for each", 2, x.place(1, 3));
        x.times(1, 98);
        x.round(0);
        Check.due("13 held to 99", 99, x.place(1, 3));
        Check.due("13 all times", 99, x.count(3));
    }

    private static void timesGrowAnew() {
        InTheGarden x = Check.garden("pk900;w01,10;h10,5;");
        x.order(1, 1);
        x.set(2, 60);
        x.round(0);
        Check.due("13 once", 1, x.place(1, 3));
        x.order(0, 0);
        x.round(0);
        Check.due("13 no more, as none was found", 1, x.place(1, 3));
        x.set(0, 1);
        x.round(0);
        Check.due("13 nor found at the base", 1, x.count(3));
    }

    private static void fullGarden() {
        InTheGarden x = Check.garden("pp100;pp100;pp100;pp100;pp100;pp100;pp100;",
                "w01,1;w02,1;w03,1;w04,1;w05,1;w06,1;w07,1;", "h9,5;h9,5;h9,5;h9,5;h9,5;h9,5;h9,5;h9,5;");
        x.set(2, 60);
        x.set(6, 0);
        x.order(8, 17654321);
        Check.due("13 all eight", 8, x.round(0));
        Check.due("16 who had no place", 7, x.found(0));
        for (int h = 0; h < 7; h++) {
            ended(x, h, h + 1, 0, 2 * h + 1);
            Check.due("16 in order", h, x.found(h + 1));
        }
        Check.due("16 no ninth", -9, x.found(8));
        Check.due("14 last second", 13, x.mind(0, 3));
    }

    private static void mindChangesNothing() {
        InTheGarden x = Check.garden("pk900;w01,10;h10,5;");
        x.order(1, 1);
        x.set(2, 60);
        Check.due("14 in mind", 1, x.mind(0, 0));
        Check.due("14 no times", 0, x.count(3));
        Check.due("14 not played", 0, x.count(7));
        Check.due("14 no latest", -3, x.found(0));
        x.round(0);
        x.set(0, 1);
        x.mind(4, 0);
        ended(x, 0, 1, 0, 10);
    }

    private static void refusals() {
        InTheGarden x = Check.garden("pk900;w01,10;h10,5;");
        Check.due("15 no round", -3, x.of(0, 0));
        Check.due("16 no round", -3, x.found(0));
        Check.due("16 below first", -4, x.found(-1));
        Check.due("15 nobody first", -1, x.of(1, 5));
        Check.due("15 other ahead of state", -2, x.of(0, 3));
        Check.due("14 other", -2, x.mind(0, 4));
        Check.due("14 other below", -2, x.mind(0, -1));
        x.round(0);
        Check.due("15 other below", -2, x.of(0, -1));
        Check.tell(x, "h3,3;");
        Check.due("15 came later", -3, x.of(1, 0));
        Check.due("15 not later", 1, x.of(0, 0));
        Check.due("15 nobody", -1, x.of(-1, 0));
        Check.due("refused -1", 2, x.count(11));
        Check.due("refused -2", 4, x.count(12));
        Check.due("refused -3", 3, x.count(13));
        Check.due("refused -4", 1, x.count(14));
        Check.due("13 no hiders", 0, new InTheGarden().round(Integer.MIN_VALUE));
    }
}
