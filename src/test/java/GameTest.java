/** Promises 21 to 26: the GAME, SUMMER, ODDS, BEST ORDER, BEST RULE. */
public final class GameTest {
    public static void main(String[] args) {
        game();
        gameOfThree();
        gameOfFour();
        gameRefusals();
        taken();
        summer();
        odds();
        bestOrder();
        bestOrderCountsAll();
        bestRule();
        Check.end("GameTest");
    }

    /**
     * Orders 1 2 (TELLS 3, 11) and 2 1 (13, 5). Taken: 1 and the first; 2 and the first; 2 and the
     * first; 2 and the second.
     */
    private static InTheGarden star() {
        return Check.garden("pp100;pp100;w01,3;w02,5;");
    }

    private static void games(InTheGarden x, int n, int low, int underLow, int high, int underHigh) {
        Check.due("21 low of " + n, low, x.game(2, n, 0, 0));
        Check.due("21 under low of " + n, underLow, x.game(2, n, 0, 1));
        Check.due("21 high of " + n, high, x.game(2, n, 1, 0));
        Check.due("21 under high of " + n, underHigh, x.game(2, n, 1, 1));
    }

    private static void game() {
        InTheGarden x = star();
        games(x, 1, 3, 1, 11, 1);
        games(x, 2, 7, 1, 11, 1);
        games(x, 3, 23, 3, 11, 1);
        games(x, 4, 7, 1, 19, 2);
        Check.due("21 one place", 3, x.game(1, 60, 0, 0));
        Check.due("21 one place, high", 3, x.game(1, 60, 1, 0));
        // By a line: 1 is passed on the way to 2, but TELLS go one after the other.
        InTheGarden line = Check.garden("pp100;pp100;w02,4;w12,3;");
        // Orders 1 2: 7, 10; 2 1: 7, 4. Against 1 alone both tell 7: the first; then 2, and still the first.
        Check.due("21 line, low of 1", 7, line.game(2, 1, 0, 0));
        Check.due("21 line, high of 1", 10, line.game(2, 1, 1, 0));
        // Places 1, 2; orders first, first (7 and 7): sums 17 and 11; 20 over places.
        Check.due("21 line, low of 2", 11, line.game(2, 2, 0, 0));
        Check.due("21 line, low of 2, below", 2, line.game(2, 2, 0, 1));
        Check.due("21 line, high of 2", 10, line.game(2, 2, 1, 0));
        // Third: place 2, order 2 1 (11 < 17): 14 + 7 = 21, 20 + 4 = 24 over places; 15 and 27 over orders.
        Check.due("21 line, low of 3", 5, line.game(2, 3, 0, 0));
        Check.due("21 line, low of 3, below", 1, line.game(2, 3, 0, 1));
        Check.due("21 line, high of 3", 8, line.game(2, 3, 1, 0));
        Check.due("21 line, high of 3, below", 1, line.game(2, 3, 1, 1));
    }

    private static void fraction(InTheGarden x, int k, int n, int what, int above, int below) {
        Check.due("21 above, of " + k + ", " + n + ", " + what, above, x.game(k, n, what, 0));
        Check.due("21 below, of " + k + ", " + n + ", " + what, below, x.game(k, n, what, 1));
    }

    /**
     * TELLS of 1, 2, 3 by orders: 123: 2 7 14; 132: 2 15 8; 213: 8 3 14; 231: 16 3 10; 312: 10 15 4;
     * 321: 16 11 4. Taken: 1 123; 3 123; 3 132; 3 132; 2 312; 2 312; 2 321; 2 231.
     */
    private static void gameOfThree() {
        InTheGarden x = Check.garden("pp100;pp100;pp100;w01,2;w02,3;w03,4;");
        fraction(x, 3, 1, 0, 2, 1);
        fraction(x, 3, 1, 1, 14, 1);
        fraction(x, 3, 4, 0, 11, 2);
        fraction(x, 3, 4, 1, 11, 1);
        fraction(x, 3, 5, 0, 37, 5);
        fraction(x, 3, 5, 1, 59, 5);
        fraction(x, 3, 6, 0, 25, 3);
        fraction(x, 3, 6, 1, 37, 3);
        fraction(x, 3, 7, 0, 55, 7);
        fraction(x, 3, 7, 1, 85, 7);
        fraction(x, 3, 8, 0, 29, 4);
        fraction(x, 3, 8, 1, 11, 1);
        Check.due("22 one", 1, x.taken(3, 8, 1));
        Check.due("22 two", 4, x.taken(3, 8, 2));
        Check.due("22 three", 3, x.taken(3, 8, 3));
    }

    /** All alike far (5, 15, 25, 35). Taken: 1 1234; 4 1234; 4 1423; 3 (a tie with 4) 4123. */
    private static void gameOfFour() {
        InTheGarden x = Check.garden("pp100;pp100;pp100;pp100;w01,5;w02,5;w03,5;w04,5;");
        fraction(x, 4, 1, 0, 5, 1);
        fraction(x, 4, 1, 1, 35, 1);
        fraction(x, 4, 2, 0, 10, 1);
        fraction(x, 4, 2, 1, 35, 1);
        fraction(x, 4, 3, 0, 25, 3);
        fraction(x, 4, 3, 1, 85, 3);
        fraction(x, 4, 4, 0, 25, 2);
        fraction(x, 4, 4, 1, 30, 1);
        int[] due = {1, 0, 1, 2};
        for (int place = 1; place <= 4; place++) {
            Check.due("22 taken " + place, due[place - 1], x.taken(4, 4, place));
        }
    }

    private static void gameRefusals() {
        InTheGarden x = star();
        Check.due("21 other what", -2, x.game(0, 0, 2, 0));
        Check.due("21 other what below", -2, x.game(1, 1, -1, 0));
        Check.due("21 other part", -2, x.game(9, 99, 0, 2));
        Check.due("21 other part below", -2, x.game(1, 1, 0, -1));
        Check.due("21 k below", -4, x.game(0, 61, 0, 0));
        Check.due("21 n below", -4, x.game(5, 0, 0, 0));
        Check.due("21 k above", -6, x.game(5, 1, 0, 0));
        Check.due("21 n above", -6, x.game(3, 61, 0, 0));
        Check.due("21 no such places", -3, x.game(3, 1, 0, 0));
        Check.tell(x, "pp100;");
        Check.due("21 can not come", -3, x.game(3, 1, 0, 0));
        Check.tell(x, "w23,1;");
        Check.due("21 can come", 3, x.game(3, 1, 0, 0));
        InTheGarden y = Check.garden("pp100;pp100;w02,3;");
        Check.due("21 the first can not be come to", -3, y.game(2, 1, 0, 0));
        Check.due("refused -2", 4, x.count(12));
        Check.due("refused -3", 2, x.count(13));
        Check.due("refused -4", 2, x.count(14));
        Check.due("refused -6", 2, x.count(16));
    }

    private static void taken() {
        InTheGarden x = star();
        Check.due("22 first", 1, x.taken(2, 1, 1));
        Check.due("22 not yet", 0, x.taken(2, 1, 2));
        Check.due("22 once", 1, x.taken(2, 4, 1));
        Check.due("22 thrice", 3, x.taken(2, 4, 2));
        Check.due("22 together", 60, x.taken(2, 60, 1) + x.taken(2, 60, 2));
        Check.due("22 no place above", -1, x.taken(1, 4, 2));
        Check.due("22 the base", -1, x.taken(2, 4, 0));
        Check.due("22 no place below", -1, x.taken(2, 4, -1));
        Check.due("22 state first", -3, x.taken(3, 4, 9));
        Check.due("22 below", -4, x.taken(0, 61, 9));
        Check.due("22 n below", -4, x.taken(5, 0, 9));
        Check.due("22 above", -6, x.taken(5, 60, 9));
        Check.due("22 n above", -6, x.taken(4, 61, 9));
        // All alike far: ties to the least PLACE and the first order.
        InTheGarden even = Check.garden("pp100;pp100;pp100;w01,5;w02,5;w03,5;");
        Check.due("22 ties", 1, even.taken(3, 2, 3));
    }

    private static void summer() {
        InTheGarden x = Check.garden("pp133;pk122;pn122;pg155;pm155;pd155;");
        Check.due("23 place", 99, x.summer(1, 3));
        Check.due("23 known", 22 + 17 + 12 + 7 + 2, x.summer(2, 30));
        Check.due("23 known once", 22, x.summer(2, 1));
        Check.due("23 near", 17 + 12 + 7, x.summer(3, 3));
        x.times(2, 2);
        Check.due("23 as times are", 12 + 7, x.summer(2, 2));
        Check.due("23 in mind", 2, x.place(2, 3));
        x.times(2, 99);
        Check.due("23 all known", 0, x.summer(2, 30));
        Check.due("23 one hider", 110, x.summer(4, 2));
        Check.due("23 second 0", 110, x.summer(5, 2));
        x.set(1, 5);
        Check.due("23 dusk", 140, x.summer(6, 2));
        Check.due("23 the base", -1, x.summer(0, 1));
        Check.due("23 nobody first", -1, x.summer(7, 0));
        Check.due("23 below", -4, x.summer(1, 0));
        Check.due("23 above", -6, x.summer(1, 31));
    }

    private static void odds() {
        InTheGarden x = Check.garden("pp150;pp199;pp100;pg140;pm160;pk150;");
        Check.due("24 no look", 1, x.odds(3, 0, 0));
        Check.due("24 no look, below", 1, x.odds(3, 0, 1));
        Check.due("24 a half", 1, x.odds(1, 1, 0));
        Check.due("24 a half, below", 2, x.odds(1, 1, 1));
        Check.due("24 four halves", 16, x.odds(1, 4, 1));
        Check.due("24 none", 0, x.odds(3, 4, 0));
        Check.due("24 none, below", 1, x.odds(3, 4, 1));
        Check.due("24 most", 96059601, x.odds(2, 4, 0));
        Check.due("24 most, below", 100000000, x.odds(2, 4, 1));
        Check.due("24 one alone", 8, x.odds(4, 3, 0));
        Check.due("24 one alone, below", 125, x.odds(4, 3, 1));
        Check.due("24 at second 0", 3, x.odds(5, 1, 0));
        Check.due("24 at second 0, below", 5, x.odds(5, 1, 1));
        x.times(6, 4);
        Check.due("24 known", 3, x.odds(6, 1, 0));
        Check.due("24 known, below", 100, x.odds(6, 2, 1));
        Check.due("24 the base", -1, x.odds(0, 1, 0));
        Check.due("24 nobody first", -1, x.odds(7, 9, 9));
        Check.due("24 other", -2, x.odds(1, -1, 2));
        Check.due("24 other below", -2, x.odds(1, 5, -1));
        Check.due("24 below", -4, x.odds(1, -1, 0));
        Check.due("24 above", -6, x.odds(1, 5, 0));
    }

    private static void bestOrder() {
        // It hides in 2. To 1 first (BACK 40) it runs (5 and 5); to 2 first (BACK 10) it is found.
        InTheGarden x = Check.garden("pp000;pp100;w01,20;w02,5;h9,5;");
        Check.due("25 finds", 3, x.bestOrder(2, 3, 0, -1));
        Check.due("25 first 2", 2, x.bestOrder(2, 3, 0, 0));
        Check.due("25 then 1", 1, x.bestOrder(2, 3, 0, 1));
        Check.due("25 no third", -9, x.bestOrder(2, 3, 0, 2));
        Check.due("25 one place", 0, x.bestOrder(1, 5, 7, -1));
        Check.due("25 the first of none better", 1, x.bestOrder(1, 5, 7, 0));
        Check.due("25 no order is told by it", 0, x.count(4));
        Check.due("25 nothing is played", 0, x.count(7) + x.count(3));
        Check.due("25 i below", -4, x.bestOrder(5, 6, 0, -2));
        Check.due("25 k below", -4, x.bestOrder(0, 6, 0, 0));
        Check.due("25 m below", -4, x.bestOrder(5, 0, 0, 0));
        Check.due("25 k above", -6, x.bestOrder(5, 1, 0, 0));
        Check.due("25 m above", -6, x.bestOrder(3, 6, 0, 0));
        Check.due("25 no such places", -3, x.bestOrder(3, 1, 0, 7));
        InTheGarden four = Check.garden("pp000;pp000;pp000;pp100;w01,20;w02,20;w03,20;w04,5;h9,5;");
        int[] due = {4, 1, 2, 3, -9};
        for (int i = 0; i < 5; i++) {
            Check.due("25 of four, " + i, due[i], four.bestOrder(4, 1, 0, i));
        }
        Check.due("25 of four, finds", 1, four.bestOrder(4, 1, 0, -1));
        InTheGarden y = Check.garden("pp100;pp100;w01,5;w02,5;h9,5;");
        y.set(2, 60);
        Check.due("25 alike: the first", 1, y.bestOrder(2, 1, 0, 0));
        y.set(0, 1);
        Check.due("25 found at the base count, too", 5, y.bestOrder(2, 5, 0, -1));
    }

    private static void bestOrderCountsAll() {
        InTheGarden x = Check.garden("pp160;pp100;w01,20;w02,7;v21;h9,5;h4,3;");
        x.set(2, 60);
        for (int z = -5; z < 40; z++) {
            int most = -1;
            int first = 0;
            for (int order : new int[] {21, 12}) {
                x.order(2, order);
                int sum = x.mind(z, 0) + x.mind(z + 1, 0) + x.mind(z + 2, 0);
                if (sum > most) {
                    most = sum;
                    first = order % 10;
                }
            }
            x.order(0, 0);
            Check.due("25 seeds from " + z, most, x.bestOrder(2, 3, z, -1));
            Check.due("25 seeds from " + z + ", first", first, x.bestOrder(2, 3, z, 0));
        }
    }

    private static void bestRule() {
        // She goes to 1 alone. FIRST, FRIEND: 1; DEEP and OUTER elsewhere.
        InTheGarden x = Check.garden("pp900;pp950;w01,5;w02,4;h9,5;h9,5;");
        x.set(2, 60);
        x.order(1, 1);
        x.set(3, 3);
        Check.due("26 deep", 1, x.bestRule(5, 3));
        Check.due("26 the rule stays", 3, x.set(3, 0));
        Check.due("26 nothing is played", 0, x.count(7) + x.count(3));
        InTheGarden y = Check.garden("pp901;pp900;w01,5;w02,8;h9,5;h9,5;");
        y.set(2, 60);
        y.order(1, 1);
        Check.due("26 outer", 2, y.bestRule(5, 3));
        y.order(1, 2);
        Check.due("26 of several the least", 0, y.bestRule(5, 3));
        Check.due("26 of one", 0, y.bestRule(1, 3));
        Check.due("26 below", -4, y.bestRule(0, 0));
        Check.due("26 above", -6, y.bestRule(6, 0));
        for (int z = 0; z < 30; z++) {
            y.order(1, 1);
            int least = 0;
            int best = 0;
            for (int rule = 4; rule >= 0; rule--) {
                y.set(3, rule);
                int sum = y.mind(z, 0) + y.mind(z + 1, 0);
                if (rule == 4 || sum <= least) {
                    least = sum;
                    best = rule;
                }
            }
            Check.due("26 seeds from " + z, best, y.bestRule(2, z));
        }
    }
}
