/** Boundaries of promises 17 to 31: TABLE to FEWEST, the GAME, ODDS, the best, the ROW, THE IMAGE. */
public final class GameBoundsTest {
    public static void main(String[] args) {
        table();
        mayGo();
        allSeen();
        fewest();
        gameOfOne();
        gameComesToTheLastOrder();
        gameOfNoSuchPlaces();
        takenInAll();
        summer();
        odds();
        lastOrderIsBest();
        bestOrderEdges();
        seedsWrapAround();
        everyRuleIsBest();
        row();
        judged();
        judgedOfNone();
        image();
        imageOfANewObject();
        count();
        Check.end("GameBoundsTest");
    }

    private static InTheGarden star(String hiders) {
        return Check.garden("pp100;pp100;pp100;pp100;pp100;pp100;pp100;",
                "w01,1;w02,2;w03,3;w04,4;w05,5;w06,6;w07,7;", hiders);
    }

    private static void table() {
        InTheGarden x = star("h9,5;h9,9;h9,1;");
        x.set(2, 0);
        // RUNS of 0 are 1 .. 7; of 1: 1 1 2 2 3 4 5; of 2: 1 3 5 6 8 10 11.
        Check.due("17 all but hers", 0b01111110, x.table(0, 7));
        Check.due("17 hers, too", 0b11111110, x.table(1, 7));
        Check.due("17 of the slow one", 0b00011110, x.table(2, 7));
        Check.due("17 at 1 none", 0, x.table(1, 1));
        Check.due("17 at 2", 0b00000110, x.table(1, 2));
        Check.due("17 at 2, alike is not less", 0b00000010, x.table(0, 2));
        Check.due("17 at the base none", 0, x.table(1, 0));
        x.set(2, 5);
        Check.due("17 1 and 5 are less than 7", 0b00000010, x.table(0, 7));
        x.set(2, 6);
        Check.due("17 1 and 6 are not", 0, x.table(0, 7));
        InTheGarden y = Check.garden("pp000;pp100;pp900;w01,10;w03,60;h9,5;");
        y.set(2, 49);
        Check.due("17 one without room, not one without a way", 0b0010, y.table(0, 3));
        y.set(2, 50);
        Check.due("17 at its end", 0, y.table(0, 3));
        y.set(2, 60);
        Check.due("17 the greatest margin", 0, y.table(0, 3));
        Check.due("17 one can not come there", -3, y.table(0, 2));
        Check.tell(y, "w12,1;");
        Check.due("17 now one can", 0, y.table(0, 2));
    }

    private static void mayGo() {
        // From 1 it needs 1 and MARGIN: so far off she may be, and no farther.
        InTheGarden x = star("h9,5;");
        for (int margin = 0; margin <= 6; margin++) {
            x.set(2, margin);
            Check.due("18 margin " + margin, 1 + margin, x.mayGo());
        }
        x.set(2, 60);
        Check.due("18 the greatest margin", 7, x.mayGo());
        // At 1 one in 1 itself would run, but that is no other PLACE.
        InTheGarden own = Check.garden("pp100;w01,2;h9,9;");
        own.set(2, 0);
        Check.due("17 from hers", 0b10, own.table(0, 1));
        Check.due("18 from no other", 1, own.mayGo());
        InTheGarden y = Check.garden("pp100;pp100;pp100;w02,9;w03,9;");
        Check.due("18 the farthest, of several the least", 2, y.mayGo());
        Check.due("18 not one that can not be come to", 0, Check.garden("pp100;").mayGo());
        // 1 can not be come to, so nobody runs from there.
        InTheGarden z = Check.garden("pp900;pp000;pp000;w02,9;w03,60;h9,9;");
        z.set(2, 0);
        Check.due("18 nobody runs from where there is no way", 3, z.mayGo());
        InTheGarden all = Check.garden("pp100;pp100;w01,1;w02,5;w12,60;h9,9;");
        all.set(2, 0);
        Check.due("18 at 2 it would run from 1", 1, all.mayGo());
        InTheGarden none = Check.garden("pp000;pp100;w02,1;w01,5;h9,9;");
        none.set(2, 0);
        Check.due("18 at 1 it would run from 2", 2, none.mayGo());
        Check.tell(none, "pp100;w03,1;");
        Check.due("18 at 1 from either, at 2 from none", 2, none.mayGo());
    }

    private static void allSeen() {
        InTheGarden x = Check.garden("pp100;pp100;pp100;pp100;pp100;pp100;pp100;");
        Check.due("19 none can be come to", 0, x.allSeen());
        Check.tell(x, "v07;");
        Check.due("19 one seen from the base", 0, x.allSeen());
        Check.tell(x, "w01,60;w12,60;w23,60;w34,60;w45,60;w56,60;w67,60;");
        Check.due("19 the last is seen from the base", 360, x.allSeen());
        InTheGarden y = Check.garden("pp100;pp100;pp100;pp100;pp100;pp100;pp100;",
                "w01,60;w12,60;w23,60;w34,60;w45,60;w56,60;w67,60;");
        Check.due("19 the longest line", 420, y.allSeen());
        Check.tell(y, "v67;");
        Check.due("19 the last seen from the one ahead of it", 360, y.allSeen());
        // Two arms of three: the shorter one twice.
        InTheGarden arms = Check.garden("pp100;pp100;pp100;pp100;pp100;pp100;",
                "w01,60;w12,60;w23,60;w04,59;w45,60;w56,60;");
        Check.due("19 two arms", 2 * 179 + 180, arms.allSeen());
        Check.due("19 apart from the base", 0, Check.garden("pp100;pp100;w12,5;").allSeen());
        Check.due("19 a way of 1", 1, Check.garden("pp100;pp100;w01,1;v12;").allSeen());
    }

    private static void fewest() {
        InTheGarden x = Check.garden("pp100;pp100;pp100;pp100;pp100;pp100;pp100;");
        Check.due("20 all eight", 255, x.fewest());
        Check.tell(x, "v70;");
        Check.due("20 all but the base", 254, x.fewest());
        Check.tell(x, "v71;v72;v73;v74;v75;");
        Check.due("20 the last two", 0b11000000, x.fewest());
        Check.tell(x, "v56;");
        Check.due("20 the least as bits", 0b10100000, x.fewest());
        Check.tell(x, "v76;");
        Check.due("20 the last alone", 0b10000000, x.fewest());
        Check.tell(x, "v30;v31;v32;v34;v35;v36;v37;");
        Check.due("20 the least of two alone", 0b00001000, x.fewest());
        // Fewer goes ahead of less as bits: {0, 1} is 3, {2} is 4.
        Check.due("20 fewer first", 0b100, Check.garden("pp100;pp100;v20;v21;v02;").fewest());
    }

    private static void gameOfOne() {
        InTheGarden x = Check.garden("pp100;w01,7;");
        for (int n = 1; n <= 60; n++) {
            for (int what = 0; what <= 1; what++) {
                Check.due("21 one place, " + n, 7, x.game(1, n, what, 0));
                Check.due("21 one place, below, " + n, 1, x.game(1, n, what, 1));
            }
            Check.due("22 one place, " + n, n, x.taken(1, n, 1));
        }
        Check.due("21 61", -6, x.game(1, 61, 0, 0));
        Check.due("21 0", -4, x.game(1, 0, 0, 0));
        Check.due("22 61", -6, x.taken(1, 61, 1));
        Check.due("22 0", -4, x.taken(1, 0, 1));
    }

    /**
     * By a line 0 4 3 2 1 the last order, 4 3 2 1, tells for each PLACE no more than it is off; as soon as
     * all have been taken it is the only one of which LOW is what these are off.
     */
    private static void gameComesToTheLastOrder() {
        InTheGarden x = Check.garden("pp100;pp100;pp100;pp100;w04,1;w34,1;w23,1;w12,1;");
        int last = 0;
        for (int n = 1; n <= 60; n++) {
            int sum = 0;
            boolean all = true;
            for (int place = 1; place <= 4; place++) {
                int taken = x.taken(4, n, place);
                sum += taken * (5 - place);
                all &= taken > 0;
            }
            Check.due("21 the last order, " + n, (long) sum * x.game(4, n, 0, 1), (long) n * x.game(4, n, 0, 0));
            last = all ? n : last;
        }
        Check.due("21 all were taken at the end", 60, last);
    }

    private static void gameOfNoSuchPlaces() {
        InTheGarden x = Check.garden("pp100;pp100;pp100;w01,1;w02,1;w03,1;");
        for (int k = 1; k <= 4; k++) {
            int due = k <= 3 ? 0 : -3;
            Check.due("21 of " + k, due, Math.min(0, x.game(k, 60, 1, 1)));
            Check.due("22 of " + k, due, Math.min(0, x.taken(k, 60, k)));
            Check.due("25 of " + k, due, Math.min(0, x.bestOrder(k, 5, 0, k - 1)));
        }
        Check.due("21 above goes ahead", -6, x.game(5, 1, 0, 0));
        Check.tell(x, "pp100;");
        Check.due("21 it can not be come to", -3, x.game(4, 1, 0, 0));
        Check.due("22 it can not be come to", -3, x.taken(4, 1, 1));
        Check.due("25 it can not be come to", -3, x.bestOrder(4, 1, 0, -1));
        Check.tell(x, "w34,60;");
        Check.due("21 now it can", 1, x.game(4, 1, 0, 0));
        Check.due("22 now it can", 1, x.taken(4, 1, 1));
        Check.due("25 now it can", 0, x.bestOrder(4, 1, 0, -1));
        Check.due("22 hers is no place", -1, x.taken(4, 1, 5));
        Check.due("22 the base is none", -1, x.taken(4, 1, 0));
    }

    private static void takenInAll() {
        InTheGarden x = Check.garden("pp100;pp100;pp100;pp100;w01,3;w02,60;w13,8;w04,20;w23,5;");
        for (int k = 1; k <= 4; k++) {
            for (int n = 1; n <= 60; n += k < 3 ? 1 : 7) {
                int sum = 0;
                for (int place = 1; place <= k; place++) {
                    sum += x.taken(k, n, place);
                }
                Check.due("22 in all, " + k, n, sum);
            }
            x = Check.garden("pp100;pp100;pp100;pp100;w01,3;w02,60;w13,8;w04,20;w23,5;");
        }
    }

    private static void summer() {
        InTheGarden x = Check.garden("pp100;pp199;ps199;pk199;pn199;");
        Check.due("23 nothing", 0, x.summer(1, 30));
        Check.due("23 once", 99, x.summer(2, 1));
        Check.due("23 the most", 30 * 99, x.summer(2, 30));
        Check.due("23 held to 99", 30 * 99, x.summer(3, 30));
        // 99, 94, .. 4: twenty that are more than 0.
        Check.due("23 known till it is 0", 20 * 103 / 2, x.summer(4, 20));
        Check.due("23 held to 0", 20 * 103 / 2, x.summer(4, 30));
        // 94, 89, .. 4: nineteen.
        Check.due("23 near", 19 * 98 / 2, x.summer(5, 19));
        Check.due("23 near, held to 0", 19 * 98 / 2, x.summer(5, 30));
        x.times(4, 19);
        Check.due("23 the last that is not 0", 4, x.summer(4, 30));
        x.times(4, 20);
        Check.due("23 none", 0, x.summer(4, 30));
        x.times(4, 99);
        Check.due("23 times at 99", 0, x.summer(4, 30));
        Check.due("23 times stay", 99, x.place(4, 3));
        Check.due("23 31", -6, x.summer(2, 31));
        Check.due("23 0", -4, x.summer(2, 0));
    }

    private static int common(int a, int b) {
        return b == 0 ? a : common(b, a % b);
    }

    private static void odds() {
        for (int cover = 0; cover <= 99; cover++) {
            InTheGarden x = Check.garden("pp1" + cover / 10 + cover % 10 + ";");
            long above = 1;
            long below = 1;
            for (int n = 0; n <= 4; n++) {
                int one = x.odds(1, n, 0);
                int other = x.odds(1, n, 1);
                Check.due("24 " + n + " looks at " + cover, above * other, one * below);
                Check.due("24 least terms, " + n + " looks at " + cover, 1, common(one, other));
                above *= cover;
                below *= 100;
            }
            Check.due("24 five looks", -6, x.odds(1, 5, 0));
            Check.due("24 less than none", -4, x.odds(1, -1, 1));
        }
    }

    /** A nearer PLACE behind a farther one (by numbers) is left as she goes to that: 4 3 2 1 alone finds all. */
    private static InTheGarden farthestLast() {
        InTheGarden x = Check.garden("pp100;pp100;pp100;pp100;w01,47;w02,45;w03,41;w04,30;", "h9,8;h9,9;h9,9;h9,9;");
        x.set(2, 60);
        return x;
    }

    private static void lastOrderIsBest() {
        InTheGarden x = farthestLast();
        Check.due("25 finds", 4, x.bestOrder(4, 1, 0, -1));
        Check.due("25 five times", 20, x.bestOrder(4, 5, 0, -1));
        for (int i = 0; i < 4; i++) {
            Check.due("25 the last order, " + i, 4 - i, x.bestOrder(4, 5, 0, i));
        }
        Check.due("25 no fifth", -9, x.bestOrder(4, 5, 0, 4));
        Check.due("25 none far behind", -9, x.bestOrder(4, 5, 0, Integer.MAX_VALUE));
        Check.due("25 -9 is no refusal", 0, x.count(11) + x.count(12) + x.count(13) + x.count(14) + x.count(16));
        for (int k = 1; k <= 3; k++) {
            // Who is in 4 wins: it never is gone to, and nobody looks there; the others as before.
            for (int i = 0; i < k; i++) {
                Check.due("25 the last order of " + k, k - i, x.bestOrder(k, 1, 0, i));
            }
            Check.due("25 behind the last of " + k, -9, x.bestOrder(k, 1, 0, k));
        }
    }

    private static void bestOrderEdges() {
        InTheGarden x = farthestLast();
        x.order(3, 111);
        x.bestOrder(4, 5, 9, 0);
        Check.due("25 the order told stays", 3, x.count(4));
        Check.due("25 -2", -4, x.bestOrder(4, 5, 9, -2));
        Check.due("25 -2 goes ahead of above", -4, x.bestOrder(5, 6, 9, -2));
        Check.due("25 above", -6, x.bestOrder(5, 5, 9, 9));
        Check.due("25 six", -6, x.bestOrder(4, 6, 9, 9));
        Check.due("25 none", -4, x.bestOrder(4, 0, 9, 9));
        // A smaller k behind a greater one: what is left of the longer orders is not gone to.
        InTheGarden few = Check.garden("pp100;pp100;pp100;pp100;w01,5;w02,5;w03,5;w04,5;", "h9,5;h9,5;h9,5;h9,5;");
        few.set(2, 60);
        for (int k : new int[] {4, 1, 4, 2, 4, 3}) {
            Check.due("25 finds by " + k, k, few.bestOrder(k, 1, 0, -1));
            Check.due("21 one round of " + k, 10 * k - 5, few.game(k, 1, 1, 0));
        }
        InTheGarden nobody = Check.garden("pp100;pp100;w01,1;w02,1;");
        Check.due("25 nobody to find", 0, nobody.bestOrder(2, 5, 0, -1));
        Check.due("25 so the first order", 1, nobody.bestOrder(2, 5, 0, 0));
        Check.due("25 and its second", 2, nobody.bestOrder(2, 5, 0, 1));
        Check.due("26 nobody to find", 0, nobody.bestRule(5, 0));
    }

    /** Behind the greatest seed comes the least. */
    private static void seedsWrapAround() {
        InTheGarden x = Check.garden("pp950;pp951;w01,20;w02,7;v21;v12;h9,5;h4,3;h8,8;h7,7;");
        x.set(2, 60);
        x.set(3, 3);
        x.order(1, 1);
        for (int back = 0; back < 5; back++) {
            int z = Integer.MAX_VALUE - back;
            int sum = 0;
            for (int i = 0; i < 5; i++) {
                sum += x.mind(z + i, 0);
            }
            Check.due("25 seeds from the greatest less " + back, sum, x.bestOrder(1, 5, z, -1));
            int best = 0;
            int least = Integer.MAX_VALUE;
            for (int rule = 0; rule <= 4; rule++) {
                x.set(3, rule);
                int found = 0;
                for (int i = 0; i < 5; i++) {
                    found += x.mind(z + i, 0);
                }
                best = found < least ? rule : best;
                least = Math.min(found, least);
            }
            Check.due("26 seeds from the greatest less " + back, best, x.bestRule(5, z));
            x.set(3, 3);
        }
    }

    private static InTheGarden sought(int order, String... texts) {
        InTheGarden x = Check.garden(texts);
        x.set(2, 60);
        int n = order < 10 ? 1 : order < 100 ? 2 : 3;
        x.order(n, order);
        return x;
    }

    private static int seedOf(int places, int draw) {
        int seed = 0;
        while (new Draws(seed).below(places) != draw) {
            seed++;
        }
        return seed;
    }

    private static void everyRuleIsBest() {
        Check.due("26 first", 0, sought(2, "pp101;pp199;w01,5;w02,9;h9,5;").bestRule(1, seedOf(2, 0)));
        // DEEP alone is not gone to: 3. FIRST and FRIEND 1, OUTER 2, LOTS by a DRAW below 3: not 3.
        Check.due("26 deep", 1, sought(21, "pp100;pp100;pp101;w01,5;w02,9;w03,4;h9,5;").bestRule(1, seedOf(3, 0)));
        Check.due("26 outer", 2, sought(21, "pp100;pp101;pp100;w01,5;w02,8;w03,9;h9,5;").bestRule(1, seedOf(3, 0)));
        // 1 by FIRST and FRIEND, 2 by DEEP, 3 by OUTER; 4 by the DRAW alone.
        Check.due("26 lots", 3, sought(321, "pp100;pp101;pp100;pp100;w01,5;w02,5;w03,9;w04,4;h9,5;")
                .bestRule(1, seedOf(4, 3)));
        // 0 is too slow for 1; with 1 all but FRIEND come to 1 (LOTS by the second DRAW).
        int seed = 0;
        Draws draws = new Draws(seed);
        draws.below(1);
        while (draws.below(2) != 0) {
            seed++;
            draws = new Draws(seed);
            draws.below(1);
        }
        InTheGarden friends = sought(1, "pp901;pp900;w01,30;w02,5;h9,1;h9,9;");
        Check.due("26 friend", 4, friends.bestRule(1, seed));
        Check.due("26 the rule stays", 0, friends.set(3, 0));
        Check.due("26 six", -6, friends.bestRule(6, 0));
        Check.due("26 none", -4, friends.bestRule(0, 0));
    }

    private static void row() {
        for (int v = 0; v <= 9; v++) {
            InTheGarden x = new InTheGarden();
            for (int i = 1; i <= 8; i++) {
                Check.due("27 " + v + " again", i, x.row(v));
            }
            Check.due("27 a ninth", -6, x.row(v));
            Check.due("27 a ninth below", -4, x.row(-1));
            Check.due("27 a ninth above", -6, x.row(10));
            Check.due("27 eight", 8, x.count(5));
            Check.due("28 no round", -3, x.judge());
            Check.due("28 it stays", 8, x.count(5));
            Check.due("27 and is full", -6, x.row(0));
        }
        InTheGarden y = new InTheGarden();
        Check.due("27 10", -6, y.row(10));
        Check.due("27 -1", -4, y.row(-1));
        Check.due("27 none came", 0, y.count(5));
    }

    /** Eight were FOUND: 7 4 5 6 0 1 2 3. */
    private static void judged() {
        int[] finds = {7, 4, 5, 6, 0, 1, 2, 3};
        InTheGarden x = Check.garden("pp400;pp300;w01,5;w02,7;", "h9,5;h9,5;h9,5;h9,5;h9,5;h9,5;h9,5;h9,5;");
        x.set(2, 60);
        x.order(2, 12);
        x.round(0);
        for (int length = 0; length <= 8; length++) {
            for (int i = 0; i < length; i++) {
                x.row(finds[i]);
            }
            Check.due("28 of " + length, length == 8 ? -9 : length, x.judge());
            Check.due("28 the row has none then", 0, x.count(5));
        }
        for (int wrong = 0; wrong < 8; wrong++) {
            for (int i = 0; i < 8; i++) {
                x.row(i == wrong ? 9 : finds[i]);
            }
            Check.due("28 wrong at " + wrong, wrong, x.judge());
            Check.due("28 the row has none then", 0, x.count(5));
        }
        x.row(7);
        x.row(9);
        Check.due("28 wrong goes ahead of too short", 1, x.judge());
        // One FOUND alone: a ROW of eight is too long from 1 on, if the first is so.
        InTheGarden y = Check.garden("pp100;w01,5;h9,5;h9,5;");
        y.round(0);
        for (int i = 0; i < 8; i++) {
            y.row(1);
        }
        Check.due("28 too long", 1, y.judge());
        y.row(0);
        y.row(1);
        Check.due("28 wrong goes ahead of too long", 0, y.judge());
        y.row(1);
        y.round(5);
        Check.due("28 by the latest round", -9, y.judge());
    }

    private static void judgedOfNone() {
        InTheGarden x = Check.garden("pp100;w01,5;h9,5;");
        x.row(0);
        Check.due("28 no round", -3, x.judge());
        x.mind(0, 0);
        Check.due("28 one in mind is none", -3, x.judge());
        x.round(0);
        Check.due("28 none was found: too long", 0, x.judge());
        Check.due("28 none was found", -9, x.judge());
        x.row(0);
        x.on();
        Check.due("28 refused on leaves the row", 1, x.count(5));
    }

    /** Whatever comes behind THE IMAGE, ON makes all of it as it was then; so it does again. */
    private static void image() {
        for (States state : States.values()) {
            InTheGarden then = state.make();
            Check.due("29 " + state, state.lastPlace() + 1, then.image());
            Look due = new Look(then);
            InTheGarden x = state.make();
            x.image();
            for (int again = 0; again < 2; again++) {
                change(x, state);
                Check.due("30 " + state, state.lastPlace() + 1, x.on());
            }
            String other = new Look(x).otherThan(due, 0);
            Check.isTrue("30 all is as then in " + state + ": " + other, other.isEmpty());
        }
    }

    /** Changes of all that THE IMAGE holds, none of them refused, THE TAPE and the ROW as they were. */
    private static void change(InTheGarden x, States state) {
        int refused = x.count(11) + x.count(12) + x.count(13) + x.count(14) + x.count(16);
        int[] other = {2, 3, 4, 1, state == States.FULL ? 0 : 1, 11, 2};
        for (int what = 0; what < 7; what++) {
            x.set(what, other[what]);
        }
        for (int place = 1; place <= state.lastPlace(); place++) {
            x.times(place, 50 + place);
        }
        x.order(state == States.EMPTY ? 0 : 2, 12);
        x.round(77);
        x.round(78);
        if (state != States.EMPTY) {
            x.set(0, 1);
            x.round(79);
        }
        int now = x.count(11) + x.count(12) + x.count(13) + x.count(14) + x.count(16);
        Check.due("30 no refusal among the changes", refused, now);
    }

    private static void imageOfANewObject() {
        InTheGarden x = new InTheGarden();
        Check.due("30 none", -3, x.on());
        Check.due("29 the base alone", 1, x.image());
        Check.tell(x, "pp150;pk250;w01,5;w12,7;v01;v12;h9,5;h5,9;");
        x.times(1, 99);
        x.order(2, 21);
        x.set(5, 10);
        x.round(3);
        Check.due("30 the base alone", 1, x.on());
        InTheGarden y = new InTheGarden();
        y.on();
        y.image();
        String other = new Look(x).otherThan(new Look(y), 0);
        Check.isTrue("30 as a new one: " + other, other.isEmpty());
        InTheGarden full = States.FULL.make();
        Check.due("29 all eight", 8, full.image());
        Check.due("30 all eight", 8, full.on());
        Check.due("31 ways", 14, full.count(1));
        Check.due("31 hiders", 8, full.count(2));
        // Room is as it was then.
        InTheGarden z = Check.garden("pp100;pp100;pp100;pp100;pp100;pp100;", "h9,9;h9,9;h9,9;h9,9;h9,9;h9,9;h9,9;");
        z.image();
        for (int i = 0; i < 3; i++) {
            Check.due("3 the last of both", 2, Check.tell(z, "pp1" + i + i + ";h9," + (i + 1) + ";"));
            Check.due("3 no more places", -2000, Check.tell(z, "pp100;"));
            Check.due("3 no more hiders", -2000, Check.tell(z, "h9,9;"));
            Check.due("4 as told", 11 * i, z.place(7, 2));
            Check.due("7 as told", i + 1, z.hider(7, 1));
            Check.due("30 room again", 7, z.on());
        }
    }

    private static void count() {
        InTheGarden x = States.FULL.make();
        int[] due = {8, 14, 8, 7 * 99, 8, 8, 64, 1};
        for (int what = 0; what < 8; what++) {
            Check.due("31 full, " + what, due[what], x.count(what));
        }
        for (int what : new int[] {Integer.MIN_VALUE, -1, 8, 9, 10, 17, 18, 100, Integer.MAX_VALUE}) {
            Check.due("31 another, " + what, -9, x.count(what));
        }
        InTheGarden y = new InTheGarden();
        Runnable[] refused = {() -> y.place(1, 0), () -> y.place(0, 4), () -> y.found(0), () -> y.feed(0, 0), null,
            () -> y.feed(9, 0)};
        for (int number = 0; number < 6; number++) {
            for (int i = 0; i <= number && refused[number] != null; i++) {
                refused[number].run();
            }
        }
        int[] counts = {1, 2, 3, 4, 0, 6};
        for (int what = 11; what <= 16; what++) {
            Check.due("31 refusals " + what, counts[what - 11], y.count(what));
        }
    }
}
