/** Boundaries of promises 8 to 16: TIMES, SETTINGS, the ORDER, COVER, RUN, ROUNDS. */
public final class RoundBoundsTest {
    public static void main(String[] args) {
        times();
        settings();
        coverOfEachKind();
        runs();
        orders();
        drawAtTheCover();
        ageAndThePlaceItself();
        drawsWrapAround();
        lotsOfOneAndOfSeven();
        whoIsDrawnFor();
        sharedWithARunner();
        noFartherThanCount();
        roomLeft();
        ruleOfAllAlike();
        lookSeconds();
        lessThanBack();
        backOfAWay();
        leastRun();
        patienceAtItsEnds();
        freesAtOneSecond();
        freesNotByAFind();
        foundAheadOfFree();
        timesAreHeld();
        nobodyThere();
        eightFound();
        Check.end("RoundBoundsTest");
    }

    private static void ended(String promise, InTheGarden x, int hider, int where, int how, int when) {
        Check.due(promise + ", where hid " + hider, where, x.of(hider, 0));
        Check.due(promise + ", how ended " + hider, how, x.of(hider, 1));
        Check.due(promise + ", when " + hider, when, x.of(hider, 2));
    }

    private static InTheGarden calm(String... texts) {
        InTheGarden x = Check.garden(texts);
        x.set(2, 60);
        return x;
    }

    private static void times() {
        InTheGarden x = Check.garden("pp100;pp100;pp100;pp100;pp100;pp100;pp100;");
        for (int place = 1; place <= 7; place++) {
            for (int v : new int[] {0, 99, 98, 1, 0, 99}) {
                int was = x.place(place, 3);
                Check.due("8 what it was", was, x.times(place, v));
                Check.due("8 what it is", v, x.place(place, 3));
            }
        }
        Check.due("8 all of them full", 7 * 99, x.count(3));
        Check.due("8 above", -6, x.times(7, 100));
        Check.due("8 below", -4, x.times(7, -1));
        Check.due("8 no eighth", -1, x.times(8, 1));
        Check.due("8 nor the base", -1, x.times(0, 1));
        Check.due("8 all as they were", 7 * 99, x.count(3));
    }

    private static void settings() {
        int[] first = {40, 0, 5, 0, 0, 300, 1};
        int[] least = {1, 0, 0, 0, 0, 10, 0};
        int[] most = {99, 50, 60, 4, 1, 900, 9};
        for (int what = 0; what < 7; what++) {
            InTheGarden x = new InTheGarden();
            Check.due("9 below leaves it", -4, x.set(what, least[what] - 1));
            Check.due("9 above leaves it", -6, x.set(what, most[what] + 1));
            Check.due("9 first", first[what], x.set(what, most[what]));
            Check.due("9 far above leaves it", -6, x.set(what, Integer.MAX_VALUE));
            Check.due("9 most", most[what], x.set(what, least[what]));
            Check.due("9 far below leaves it", -4, x.set(what, Integer.MIN_VALUE));
            Check.due("9 least", least[what], x.set(what, first[what]));
            for (int other = 0; other < 7; other++) {
                Check.due("9 the others are as at first", first[other], x.set(other, first[other]));
            }
        }
    }

    private static void covers(String place, int times, int dusk, int second, int many, int due) {
        InTheGarden x = Check.garden(place);
        x.times(1, times);
        x.set(1, dusk);
        Check.due("11 " + place + " times " + times + ", dusk " + dusk + ", second " + second + ", " + many, due,
                x.cover(1, second, many));
    }

    private static void coverOfEachKind() {
        covers("pp100;", 99, 50, 999, 9, 0);
        covers("pp199;", 99, 50, 999, 9, 99);
        covers("ph100;", 99, 50, 999, 9, 0);
        covers("ph199;", 99, 50, 999, 9, 99);
        covers("pk150;", 0, 50, 999, 9, 50);
        covers("pk150;", 9, 0, 0, 1, 5);
        covers("pk150;", 10, 0, 0, 1, 0);
        covers("pk150;", 11, 0, 0, 1, 0);
        covers("pk199;", 19, 0, 0, 1, 4);
        covers("pk199;", 20, 0, 0, 1, 0);
        covers("pk199;", 99, 0, 0, 1, 0);
        covers("pn150;", 0, 50, 999, 9, 45);
        covers("pn150;", 8, 0, 0, 1, 5);
        covers("pn150;", 9, 0, 0, 1, 0);
        covers("pn150;", 10, 0, 0, 1, 0);
        covers("pn105;", 0, 0, 0, 1, 0);
        covers("pn106;", 0, 0, 0, 1, 1);
        covers("pn199;", 99, 0, 0, 1, 0);
        covers("ps100;", 99, 50, 999, 9, 10);
        covers("ps188;", 0, 50, 0, 1, 98);
        covers("ps189;", 0, 0, 0, 1, 99);
        covers("ps190;", 0, 0, 0, 1, 99);
        covers("ps199;", 0, 0, 0, 1, 99);
        covers("pd100;", 99, 0, 999, 9, 10);
        covers("pd188;", 0, 0, 0, 1, 98);
        covers("pd188;", 0, 1, 0, 1, 99);
        covers("pd188;", 0, 2, 0, 1, 99);
        covers("pd138;", 0, 50, 0, 1, 98);
        covers("pd139;", 0, 50, 0, 1, 99);
        covers("pd140;", 0, 50, 0, 1, 99);
        covers("pd199;", 0, 50, 0, 1, 99);
        covers("pg199;", 99, 50, 999, 0, 99);
        covers("pg199;", 99, 50, 999, 1, 99);
        covers("pg199;", 0, 0, 0, 2, 49);
        covers("pg199;", 0, 0, 0, 9, 49);
        covers("pg101;", 0, 0, 0, 2, 0);
        covers("pg100;", 0, 0, 0, 2, 0);
        covers("pm199;", 99, 50, 0, 9, 99);
        covers("pm199;", 0, 0, 1, 1, 49);
        covers("pm199;", 0, 0, 2, 1, 99);
        covers("pm199;", 0, 0, 998, 1, 99);
        covers("pm199;", 0, 0, 999, 1, 49);
        covers("pm101;", 0, 0, 1, 1, 0);
    }

    private static void runs() {
        InTheGarden x = Check.garden("pp100;ph100;pp100;ph100;w01,1;w02,1;w03,2;w04,3;h9,1;h9,5;h9,9;");
        int[][] due = {{1, 6, 3, 10}, {1, 6, 2, 8}, {1, 5, 1, 7}};
        for (int hider = 0; hider < 3; hider++) {
            for (int place = 1; place <= 4; place++) {
                Check.due("12 run of " + hider + " from " + place, due[hider][place - 1], x.run(hider, place));
            }
        }
        InTheGarden y = Check.garden("pp100;pp100;pp100;pp100;pp100;pp100;ph100;",
                "w01,60;w12,60;w23,60;w34,60;w45,60;w56,60;", "h9,1;h9,9;");
        Check.due("12 none", -9, y.run(0, 7));
        Check.due("12 far", 600, y.run(0, 6));
        Check.tell(y, "w67,60;");
        Check.due("12 the longest", 705, y.run(0, 7));
        Check.due("12 the longest of the fastest", 305, y.run(1, 7));
    }

    private static void orders() {
        InTheGarden x = calm("pp000;pp100;w01,4;w02,3;h9,5;");
        // Seven times 1 is once; the eighth is 2: 4, 9 at THE BASE, 13.
        Check.due("10 eight", 0, x.order(8, 21111111));
        Check.due("10 the eighth is gone to", 13, x.mind(0, 3));
        Check.due("10 nine", -6, x.order(9, 21111111));
        Check.due("10 a ninth that is not there", -6, x.order(9, 921111111));
        Check.due("10 the eighth is not there", -1, x.order(8, 31111111));
        Check.due("10 the eighth is the base", -1, x.order(8, 1111111));
        Check.due("10 as it was", 13, x.mind(0, 3));
        Check.due("10 what is behind n is free", 8, x.order(7, 91111111));
        Check.due("10 the eighth is gone", 300, x.mind(0, 3));
        Check.due("10 none", 7, x.order(0, Long.MIN_VALUE));
        Check.due("10 she stays", 300, x.mind(0, 3));
        Check.due("10 she finds none", 0, x.mind(0, 0));
        Check.due("10 has none", 0, x.count(4));
        Check.due("10 the greatest number there is", -1, x.order(8, Long.MAX_VALUE));
        Check.due("10 digits of a great number", 0, x.order(2, 9000000000000000012L));
        Check.due("10 goes to 2 first", 3, x.mind(0, 3));
    }

    /** One HIDER in PLACE 1, looked at once from afar (from 2, at SECOND 5) or in the PLACE itself. */
    private static InTheGarden oneLook(String place, int age, int order) {
        InTheGarden x = calm(place + "pp000;w02,5;w01,40;v21;h" + age + ",5;");
        x.order(1, order);
        return x;
    }

    private static void foundFrom(String what, InTheGarden x, int cover) {
        for (int from : new int[] {0, Integer.MIN_VALUE, Integer.MAX_VALUE - 40, -50, 1 << 30}) {
            Check.due("13 " + what + ": the draw that is the cover", 1, x.mind(Draws.seedOf(cover, from), 0));
            if (cover > 0) {
                Check.due("13 " + what + ": one below it", 0, x.mind(Draws.seedOf(cover - 1, from), 0));
            }
            Check.due("13 " + what + ": the greatest draw", 1, x.mind(Draws.seedOf(99, from), 0));
            Check.due("13 " + what + ": the least draw", cover == 0 ? 1 : 0, x.mind(Draws.seedOf(0, from), 0));
        }
    }

    private static void drawAtTheCover() {
        for (int cover = 0; cover <= 99; cover++) {
            foundFrom("cover " + cover, oneLook("pp1" + cover / 10 + cover % 10 + ";", 10, 2), cover);
        }
        foundFrom("held to 99", oneLook("ps199;", 10, 2), 99);
        foundFrom("held to 0", oneLook("pn103;", 10, 2), 0);
    }

    private static void ageAndThePlaceItself() {
        int[] hidden = {0, 1, 9, 10, 11, 12, 13, 51, 98, 99};
        int[] young = {0, 0, 0, 0, 1, 2, 3, 41, 88, 89};
        int[] halfYoung = {0, 0, 0, 0, 0, 1, 1, 20, 44, 44};
        int[] half = {0, 0, 4, 5, 5, 6, 6, 25, 49, 49};
        for (int i = 0; i < hidden.length; i++) {
            String place = "pp1" + hidden[i] / 10 + hidden[i] % 10 + ";";
            for (int age : new int[] {2, 5}) {
                foundFrom("age " + age + ", hidden " + hidden[i], oneLook(place, age, 2), young[i]);
                foundFrom("age " + age + " itself, hidden " + hidden[i], oneLook(place, age, 1), halfYoung[i]);
            }
            for (int age : new int[] {6, 15}) {
                foundFrom("age " + age + ", hidden " + hidden[i], oneLook(place, age, 2), hidden[i]);
                foundFrom("age " + age + " itself, hidden " + hidden[i], oneLook(place, age, 1), half[i]);
            }
        }
    }

    private static void drawsWrapAround() {
        InTheGarden x = oneLook("pp150;", 10, 2);
        int[] seeds = {Integer.MIN_VALUE, Integer.MIN_VALUE + 1, -1664525, -2, -1, 0, 1, 2, 1664525, 1 << 16,
            Integer.MAX_VALUE - 1, Integer.MAX_VALUE};
        for (int seed : seeds) {
            int due = new Draws(seed).below(100) >= 50 ? 1 : 0;
            Check.due("13 seed " + seed, due, x.round(seed));
            Check.due("14 seed " + seed, due, x.mind(seed, 0));
        }
    }

    private static void lotsOfOneAndOfSeven() {
        InTheGarden seven = Check.garden("pp100;pp100;pp100;pp100;pp100;pp100;pp100;",
                "w01,1;w02,1;w03,1;w04,1;w05,1;w06,1;w07,1;", "h9,5;");
        seven.set(3, 3);
        boolean[] chosen = new boolean[8];
        for (int seed = -60; seed < 60; seed++) {
            int due = 1 + new Draws(seed * 35791394).below(7);
            seven.round(seed * 35791394);
            Check.due("13 lots of seven", due, seven.of(0, 0));
            chosen[due] = true;
        }
        for (int place = 1; place <= 7; place++) {
            Check.isTrue("13 lots comes to " + place, chosen[place]);
        }
        // A DRAW below 1 for the one that has one PLACE, none for the one that has none: the look's is the second.
        InTheGarden one = oneLook("pp150;", 10, 2);
        Check.tell(one, "h10,5;");
        one.set(3, 3);
        for (int seed = 0; seed < 100; seed++) {
            Draws draws = new Draws(seed);
            draws.below(1);
            Check.due("13 lots of one, seed " + seed, draws.below(100) >= 50 ? 2 : 1, one.mind(seed, 0));
        }
    }

    /** By numbers, who is in sight and hides still; at COVER 0, too; who was FOUND takes none any more. */
    private static void whoIsDrawnFor() {
        for (int seed = 0; seed < 200; seed++) {
            InTheGarden x = calm("pp100;pp150;pp160;pp000;pp000;w01,40;w02,40;w03,40;w04,5;w05,5;",
                    "v41;v42;v52;v53;h9,5;h9,5;h9,5;");
            x.order(2, 54);
            Draws draws = new Draws(seed);
            draws.below(100);
            boolean atOnce = draws.below(100) >= 50;
            boolean found = atOnce || draws.below(100) >= 50;
            boolean other = draws.below(100) >= 60;
            x.round(seed);
            ended("15 cover 0, seed " + seed, x, 0, 1, 0, 5);
            ended("15 seen twice, seed " + seed, x, 1, 2, found ? 0 : 2, atOnce ? 5 : found ? 17 : 300);
            ended("15 seen at last, seed " + seed, x, 2, 3, other ? 0 : 2, other ? 17 : 300);
        }
    }

    /** One of two runs (RUN 21 and MARGIN 18 against BACK 40): the other is alone as she looks, at 20. */
    private static void sharedWithARunner() {
        InTheGarden x = Check.garden("pg261;pp000;w01,30;w02,20;v21;h9,9;h9,1;");
        x.set(0, 99);
        x.set(2, 18);
        x.order(1, 2);
        Check.due("13 a runner is left out: 60", 0, x.mind(Draws.seedOf(60, 0), 0));
        Check.due("13 a runner is left out: 30", 0, x.mind(Draws.seedOf(30, 0), 0));
        Check.due("13 a runner is left out: 61", 1, x.mind(Draws.seedOf(61, 0), 0));
        Check.due("14 it is free", 1, x.mind(Draws.seedOf(61, 0), 1));
        x.set(2, 19);
        Check.due("13 both hide: 29, then 29", 0, x.mind(seedOfTwo(29, 29), 0));
        Check.due("13 both hide: 30, then 60", 1, x.mind(seedOfTwo(30, 60), 0));
        Check.due("13 both hide: 30, then 61", 2, x.mind(seedOfTwo(30, 61), 0));
        Check.due("13 both hide: 29, then 30", 1, x.mind(seedOfTwo(29, 30), 0));
    }

    private static int seedOfTwo(int first, int second) {
        for (int seed = 0; ; seed++) {
            Draws draws = new Draws(seed);
            if (draws.below(100) == first && draws.below(100) == second) {
                return seed;
            }
        }
    }

    private static void hidesAtCount(int seconds, int pace, int count, boolean hides) {
        InTheGarden x = Check.garden(seconds <= 60 ? "pp100;w01," + seconds + ";h9," + pace + ";"
                : "pp000;pp100;w01,60;w12," + (seconds - 60) + ";h9," + pace + ";");
        x.set(0, count);
        Check.due("13 " + seconds + " at pace " + pace + ", count " + count, hides ? 0 : 1, x.round(0));
        Check.due("15 where", hides ? seconds <= 60 ? 1 : 2 : 0, x.of(0, 0));
        Check.due("15 when", hides ? 300 : 0, x.of(0, 2));
    }

    private static void noFartherThanCount() {
        hidesAtCount(40, 5, 40, true);
        hidesAtCount(41, 5, 40, false);
        hidesAtCount(57, 9, 40, true);
        hidesAtCount(58, 9, 40, false);
        hidesAtCount(57, 9, 39, false);
        hidesAtCount(24, 1, 40, true);
        hidesAtCount(25, 1, 40, false);
        hidesAtCount(1, 5, 1, true);
        hidesAtCount(2, 5, 1, false);
        hidesAtCount(1, 9, 1, true);
        hidesAtCount(2, 9, 1, true);
        hidesAtCount(3, 9, 1, false);
        hidesAtCount(1, 1, 1, true);
        hidesAtCount(99, 5, 99, true);
        hidesAtCount(100, 5, 99, false);
        hidesAtCount(59, 1, 99, true);
        hidesAtCount(60, 1, 99, false);
    }

    private static void roomLeft() {
        for (int room = 0; room <= 9; room++) {
            for (int rule = 0; rule <= 4; rule++) {
                InTheGarden x = Check.garden("pp" + room + "00;w01,5;h9,5;h9,5;h9,5;h9,5;h9,5;h9,5;h9,5;h9,5;");
                x.set(3, rule);
                Check.due("13 room " + room + ", rule " + rule, 8 - Math.min(8, room), x.round(7));
                for (int hider = 0; hider < 8; hider++) {
                    ended("13 room " + room, x, hider, hider < room ? 1 : 0, hider < room ? 2 : 0,
                            hider < room ? 300 : 0);
                }
            }
        }
    }

    private static void ruleOfAllAlike() {
        InTheGarden x = Check.garden("pp100;pp100;pp100;w01,9;w02,9;w03,9;h9,5;h9,5;h9,5;h9,5;");
        for (int rule : new int[] {0, 1, 2, 4}) {
            x.set(3, rule);
            x.round(1);
            for (int hider = 0; hider < 4; hider++) {
                Check.due("13 alike, rule " + rule, (hider + 1) % 4, x.of(hider, 0));
            }
        }
        // FRIEND: the HIDER ahead is in a PLACE that is full now, and 1 has room.
        InTheGarden y = Check.garden("pp230;pp130;w01,30;w02,5;h9,1;h9,9;h9,9;h9,9;");
        y.set(3, 4);
        y.round(0);
        int[] due = {2, 1, 1, 0};
        for (int hider = 0; hider < 4; hider++) {
            Check.due("13 friend, no room there", due[hider], y.of(hider, 0));
        }
    }

    private static void lookSeconds() {
        // To 1, over THE BASE, to 2: LOOK is waited for at each.
        InTheGarden x = calm("pp000;pp100;w01,4;w02,3;h9,5;");
        x.order(2, 21);
        for (int look = 0; look <= 9; look++) {
            x.set(6, look);
            Check.due("13 look " + look, 11 + 2 * look, x.mind(0, 3));
        }
    }

    private static void lessThanBack() {
        // BACK 20 at SECOND 0, whatever LOOK is; RUN 10 and MARGIN.
        InTheGarden x = Check.garden("pp000;pp100;w01,10;w02,10;h9,5;");
        x.order(1, 1);
        for (int look = 0; look <= 9; look++) {
            x.set(6, look);
            x.set(2, 9);
            Check.due("13 19 is less than 20", 1, x.mind(0, 1));
            Check.due("13 it comes at 10", 10, x.mind(0, 3));
            x.set(2, 10);
            Check.due("13 20 is not", 1, x.mind(0, 2));
        }
        x.set(2, 0);
        x.order(0, 0);
        Check.due("13 nobody runs as she stays", 1, x.mind(0, 2));
    }

    /** On the WAY from 1 to 3 BACK is 10 and 12: more than at first. RUN is 16. */
    private static void backOfAWay() {
        InTheGarden x = Check.garden("pp000;pp100;pp000;w01,10;w13,10;w03,12;w02,16;h9,5;");
        x.order(2, 31);
        x.set(2, 5);
        Check.due("13 21 is less than 22, not than 20", 1, x.mind(0, 1));
        Check.due("13 it runs at 11", 27, x.mind(0, 3));
        x.set(2, 3);
        Check.due("13 19 is less than 20: it runs at 0", 16, x.mind(0, 3));
        x.set(2, 4);
        Check.due("13 20 is not: it runs at 11", 27, x.mind(0, 3));
        x.set(6, 0);
        Check.due("13 without a look at 10", 26, x.mind(0, 3));
        x.set(6, 1);
        x.set(2, 6);
        Check.due("13 22 is not less than 22", 1, x.mind(0, 2));
        Check.due("13 it has won", 300, x.mind(0, 3));
    }

    private static void leastRun() {
        InTheGarden x = Check.garden("pp100;pp000;w01,1;w02,1;h9,9;");
        x.order(1, 2);
        x.set(2, 0);
        Check.due("13 a run of 1 against 2", 1, x.mind(0, 1));
        Check.due("13 it comes at 1", 1, x.mind(0, 3));
        x.set(2, 1);
        Check.due("13 2 against 2", 1, x.mind(0, 2));
    }

    /** She comes to 3 at 8 times 60, 6 times 40, 7 times 18 and what 3 is off: 846 and that. */
    private static InTheGarden longWay(int seconds) {
        InTheGarden x = calm("pp000;pp000;pp100;w01,60;w02,40;w03," + seconds + ";h9,1;");
        x.set(0, 99);
        x.set(6, 9);
        x.order(8, 31212121);
        return x;
    }

    private static void patienceAtItsEnds() {
        InTheGarden x = longWay(54);
        x.set(5, 900);
        Check.due("13 found at 900", 1, x.round(0));
        ended("13 patience 900", x, 0, 3, 0, 900);
        x.set(5, 899);
        Check.due("13 not at 899", 0, x.round(0));
        ended("13 patience 899", x, 0, 3, 2, 899);
        InTheGarden y = longWay(55);
        y.set(5, 900);
        Check.due("13 not at 901", 0, y.round(0));
        ended("13 patience 900", y, 0, 3, 2, 900);
        Check.due("14 the last second", 900, y.mind(0, 3));
        InTheGarden z = Check.garden("pp100;pp000;w01,10;w02,20;h9,5;");
        z.order(1, 2);
        z.set(5, 10);
        Check.due("13 free at 10", 1, z.mind(0, 1));
        Check.due("14 at 10", 10, z.mind(0, 3));
        InTheGarden late = Check.garden("pp100;pp000;w01,11;w02,20;h9,5;");
        late.order(1, 2);
        late.set(5, 10);
        Check.due("13 not free at 11", 0, late.mind(0, 1));
        Check.due("13 who runs still has won", 1, late.mind(0, 2));
        late.set(5, 11);
        Check.due("13 free at 11", 1, late.mind(0, 1));
        z.order(0, 0);
        z.round(0);
        ended("13 who hides still has won", z, 0, 1, 2, 10);
    }

    /** 0 is FOUND at 5; 1 and 2 run from PLACE 2 at 6. */
    private static InTheGarden twoRun(int pace) {
        InTheGarden x = Check.garden("pp100;pp200;pp000;w01,5;w02,15;w13,20;h10,5;h10,5;h10," + pace + ";");
        x.order(2, 31);
        x.set(4, 1);
        return x;
    }

    private static void freesAtOneSecond() {
        InTheGarden x = twoRun(5);
        Check.due("13 both come at 21", 0, x.round(0));
        ended("13 freed", x, 0, 1, 1, 21);
        ended("13 free", x, 1, 2, 1, 21);
        ended("13 free", x, 2, 2, 1, 21);
        Check.due("16 the freed one was found", 0, x.found(0));
        Check.due("16 nobody else", -9, x.found(1));
        InTheGarden y = twoRun(4);
        Check.due("13 the last comes at 22", 0, y.round(0));
        ended("13 freed by the last", y, 0, 1, 1, 22);
        ended("13 free", y, 1, 2, 1, 21);
        ended("13 free", y, 2, 2, 1, 22);
        y.set(5, 21);
        Check.due("13 the last runs still", 1, y.round(0));
        ended("13 not freed", y, 0, 1, 0, 5);
        ended("13 free", y, 1, 2, 1, 21);
        ended("13 won", y, 2, 2, 2, 21);
        y.set(5, 22);
        y.set(4, 0);
        Check.due("13 frees is 0", 1, y.round(0));
        ended("13 not freed", y, 0, 1, 0, 5);
        ended("13 free", y, 2, 2, 1, 22);
    }

    /** 1 is FREE at 21, as 2 hides still; 2 is FOUND at 94, and that frees nobody. */
    private static void freesNotByAFind() {
        InTheGarden x = Check.garden("pp100;pp100;pp000;pp100;w01,5;w02,15;w13,20;w04,40;", "h9,5;h9,5;h9,1;");
        x.set(0, 99);
        x.set(2, 14);
        x.set(4, 1);
        x.order(3, 431);
        Check.due("13 two found", 2, x.round(0));
        ended("13 found", x, 0, 1, 0, 5);
        ended("13 free", x, 1, 2, 1, 21);
        ended("13 found at last", x, 2, 4, 0, 94);
        Check.due("14 the last second", 94, x.mind(0, 3));
        Check.due("16 first", 0, x.found(0));
        Check.due("16 second", 2, x.found(1));
        Check.due("16 no third", -9, x.found(2));
    }

    /** At 10 she comes to 1 and looks, then 1 comes to THE BASE: as it is FREE, 0 hides no more. */
    private static void foundAheadOfFree() {
        InTheGarden x = Check.garden("pp100;pp100;w01,10;w02,10;h9,1;h9,5;");
        x.order(1, 1);
        Check.due("13 one found", 1, x.round(0));
        ended("13 found", x, 0, 1, 0, 10);
        ended("13 free", x, 1, 2, 1, 10);
        x.set(4, 1);
        Check.due("13 found first, then freed", 0, x.round(0));
        ended("13 freed", x, 0, 1, 1, 10);
        ended("13 free", x, 1, 2, 1, 10);
        Check.due("14 both are free", 2, x.mind(0, 1));
        Check.due("14 the last second", 10, x.mind(0, 3));
        Check.due("16 it was found", 0, x.found(0));
        Check.due("16 the other was not", -9, x.found(1));
        // With 99 as its HIDDEN it is not FOUND by that look, so it hides as 1 is FREE: nobody is freed.
        InTheGarden y = Check.garden("pp199;pp100;pp000;w01,10;w02,10;h9,1;h9,5;w03,10;h9,5;");
        y.order(1, 1);
        y.set(4, 1);
        Check.due("13 the one without a place stays found", 1, y.round(Draws.seedOf(48, 0)));
        ended("13 hides still", y, 0, 1, 2, 300);
        ended("13 free", y, 1, 2, 1, 10);
        ended("13 found at the base", y, 2, 0, 0, 0);
        Check.due("13 and freed, if that look finds", 0, y.round(Draws.seedOf(49, 0)));
        ended("13 freed from the place", y, 0, 1, 1, 10);
        ended("13 freed from the base", y, 2, 0, 1, 10);
    }

    private static void timesAreHeld() {
        for (int was = 95; was <= 99; was++) {
            InTheGarden x = calm("pp300;w01,10;h9,5;h9,5;h9,5;");
            x.order(1, 1);
            x.times(1, was);
            Check.due("14 in mind", 3, x.mind(0, 0));
            x.bestOrder(1, 5, 0, -1);
            x.bestRule(5, 0);
            Check.due("14 in mind times stay", was, x.place(1, 3));
            Check.due("13 three found", 3, x.round(0));
            Check.due("13 times from " + was, Math.min(99, was + 3), x.place(1, 3));
        }
        // Each PLACE has its own: 0 was in 1, 1 in 2, both seen from 2; 2 was nowhere.
        InTheGarden y = calm("pp100;pp100;w01,9;w02,4;v21;h9,5;h9,5;h9,5;");
        y.order(1, 2);
        Check.due("13 all found", 3, y.round(0));
        Check.due("13 times of 1", 1, y.place(1, 3));
        Check.due("13 times of 2", 1, y.place(2, 3));
        Check.due("13 none of the base", 0, y.place(0, 3));
        Check.due("13 all times", 2, y.count(3));
    }

    private static void nobodyThere() {
        InTheGarden x = Check.garden("pp100;w01,5;");
        x.order(1, 1);
        Check.due("13 nobody", 0, x.round(5));
        for (int what = 0; what < 4; what++) {
            Check.due("14 nobody " + what, 0, x.mind(5, what));
        }
        Check.due("15 nobody", -1, x.of(0, 0));
        Check.due("16 none", -9, x.found(0));
        Check.due("16 none at all", -9, x.found(Integer.MAX_VALUE));
        Check.due("13 played", 1, x.count(7));
        Check.tell(x, "h9,5;");
        Check.due("15 it came later", -3, x.of(0, 0));
        x.round(5);
        Check.due("15 now it was there", 1, x.of(0, 0));
    }

    private static void eightFound() {
        InTheGarden x = calm("pp400;pp300;w01,5;w02,7;", "h9,5;h9,5;h9,5;h9,5;h9,5;h9,5;h9,5;h9,5;");
        x.order(2, 12);
        Check.due("13 eight", 8, x.round(0));
        // 7 had no PLACE; 4, 5, 6 in 2 at 7; 0 to 3 in 1 at 21.
        int[] due = {7, 4, 5, 6, 0, 1, 2, 3, -9};
        for (int i = 0; i < 9; i++) {
            Check.due("16 the " + i + "-th", due[i], x.found(i));
        }
        Check.due("16 far behind", -9, x.found(Integer.MAX_VALUE));
        ended("15 the last", x, 3, 1, 0, 21);
        ended("15 the first", x, 7, 0, 0, 0);
        Check.due("15 no ninth", -1, x.of(8, 0));
        Check.due("14 found", 8, x.mind(0, 0));
        Check.due("14 free", 0, x.mind(0, 1));
        Check.due("14 won", 0, x.mind(0, 2));
        Check.due("14 last", 21, x.mind(0, 3));
    }
}
