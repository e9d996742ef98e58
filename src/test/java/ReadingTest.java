/**
 * Sentences that could be taken otherwise, each in a GARDEN in which the other reading answers otherwise:
 * what a RULE chooses by, who shares a PLACE, what BACK counts, who is counted as FOUND.
 */
public final class ReadingTest {
    public static void main(String[] args) {
        outerIsByFar();
        deepIsByHidden();
        friendIsTheOneAhead();
        whoHasNoneTakesNoRoom();
        sharedWithOneThatIsFree();
        lookIsNotPartOfBack();
        timesStayWithinARound();
        passedOnTheWayIsGoneToAgain();
        oddsAtDusk();
        foundAtTheEndCounts();
        bothByWhatWasTakenAhead();
        Check.end("ReadingTest");
    }

    private static void hide(String what, InTheGarden x, int rule, int... due) {
        x.set(3, rule);
        x.round(0);
        for (int hider = 0; hider < due.length; hider++) {
            Check.due("13 " + what + ", hider " + hider, due[hider], x.of(hider, 0));
        }
    }

    /** 110 by 11 and 120 by 11 are both 10, cut; by FAR 2 is farther. */
    private static void outerIsByFar() {
        InTheGarden x = Check.garden("pp100;pp100;w01,11;w02,12;h9,6;h9,6;");
        hide("outer by far", x, 2, 2, 1);
        InTheGarden high = Check.garden("ph100;pp100;w01,11;w02,12;h9,5;");
        hide("outer without leaving", high, 2, 2);
    }

    private static void deep(String text, int times, int dusk, int... due) {
        InTheGarden x = Check.garden(text);
        x.times(1, times);
        x.set(1, dusk);
        hide("deep of " + text, x, 1, due);
    }

    /** HIDDEN as it was told, whatever the COVER is. */
    private static void deepIsByHidden() {
        deep("pk150;pp149;w01,5;w02,5;h9,5;", 9, 0, 1);
        deep("pn150;pp149;w01,5;w02,5;h9,5;", 0, 0, 1);
        deep("pp150;ps149;w01,5;w02,5;h9,5;", 0, 0, 1);
        deep("pp150;pd149;w01,5;w02,5;h9,5;", 0, 50, 1);
        deep("ps149;pp150;w01,5;w02,5;h9,5;", 0, 0, 2);
        deep("pd149;pp150;w01,5;w02,5;h9,5;", 0, 50, 2);
        deep("pg250;pp249;w01,5;w02,5;h9,5;h9,5;h9,5;", 0, 0, 1, 1, 2);
        deep("pm150;pp149;w01,5;w02,5;h9,5;", 0, 0, 1);
    }

    /** By COUNT 20: 0 comes to 2 alone, 1 nowhere, 2 to both. */
    private static void friendIsTheOneAhead() {
        InTheGarden x = Check.garden("pp900;pp900;w01,20;w02,14;h9,2;h9,1;h9,9;");
        x.set(0, 20);
        hide("as first, if the one ahead is nowhere", x, 4, 2, 0, 1);
        InTheGarden y = Check.garden("pp900;pp200;pp900;w01,40;w02,14;w03,5;h9,2;h9,1;h9,9;h9,2;");
        y.set(0, 28);
        // 0 in 2 by FIRST (1 is too far), 1 with it; 2 is full then: 2 goes as FIRST, to 1; 3 may not, so to 3.
        hide("as first, if the one ahead has no room", y, 4, 2, 2, 1, 3);
    }

    private static void whoHasNoneTakesNoRoom() {
        for (int rule = 0; rule <= 4; rule++) {
            InTheGarden x = Check.garden("pp100;w01,14;h9,1;h9,1;h9,9;h9,9;");
            x.set(0, 20);
            hide("room for the third, rule " + rule, x, rule, 0, 0, 1, 0);
        }
    }

    /** 0 runs at once and is FREE at 10; at 20 she looks from 2 at 1, where the other is alone. */
    private static void sharedWithOneThatIsFree() {
        InTheGarden x = Check.garden("pg261;pp000;w01,14;w02,20;v21;h9,9;h9,1;");
        x.set(2, 18);
        x.order(1, 2);
        Check.due("14 one is free", 1, x.mind(0, 1));
        Check.due("13 alone: 30 is below 61", 0, x.mind(Draws.seedOf(30, 0), 0));
        Check.due("13 alone: 60 is below 61", 0, x.mind(Draws.seedOf(60, 0), 0));
        Check.due("13 alone: 61 is not", 1, x.mind(Draws.seedOf(61, 0), 0));
    }

    /** At 1 BACK is 1, on the way there 2 at most, however long she looks; RUN is 5. */
    private static void lookIsNotPartOfBack() {
        InTheGarden x = Check.garden("pp000;pp100;w01,1;w02,5;h9,5;");
        x.order(1, 1);
        x.set(2, 0);
        for (int look = 0; look <= 9; look++) {
            x.set(6, look);
            Check.due("13 nobody runs, look " + look, 1, x.mind(0, 2));
        }
    }

    /** Two in a KNOWN one, looked at together: the first that is FOUND makes it known behind the ROUND. */
    private static void timesStayWithinARound() {
        InTheGarden x = Check.garden("pk250;pp000;w02,5;w01,40;v21;h9,5;h9,5;");
        x.set(2, 60);
        x.order(1, 2);
        for (int seed = 0; seed < 200; seed++) {
            Draws draws = new Draws(seed);
            int found = (draws.below(100) >= 50 ? 1 : 0) + (draws.below(100) >= 50 ? 1 : 0);
            Check.due("14 both at 50, seed " + seed, found, x.mind(seed, 0));
        }
        int seed = 0;
        while (seed < 200 && x.mind(seed, 0) < 2) {
            seed++;
        }
        Check.due("13 both are found", 2, x.round(seed));
        Check.due("11 known behind it", 40, x.cover(1, 0, 1));
    }

    /** To 2 over 1 (looked at, at 4), then to 1 once more: the second look there is at 12. */
    private static void passedOnTheWayIsGoneToAgain() {
        InTheGarden x = Check.garden("pp199;pp000;w01,4;w12,3;w02,20;h9,5;");
        x.set(2, 60);
        x.order(2, 12);
        int looks = 0;
        for (int seed = 0; seed < 300; seed++) {
            Draws draws = new Draws(seed);
            boolean first = draws.below(100) >= 49;
            boolean second = draws.below(100) >= 49;
            x.round(seed);
            Check.due("15 seed " + seed, first ? 4 : second ? 12 : 300, x.of(0, 2));
            looks += !first && second ? 1 : 0;
            if (seed % 100 == 99) {
                x = Check.garden("pp199;pp000;w01,4;w12,3;w02,20;h9,5;");
                x.set(2, 60);
                x.order(2, 12);
            }
        }
        Check.isTrue("13 the second look found", looks > 0);
    }

    private static void oddsAtDusk() {
        InTheGarden x = Check.garden("pd140;pn135;");
        Check.due("24 dusky", 1, x.odds(1, 1, 0));
        Check.due("24 dusky, below", 2, x.odds(1, 1, 1));
        x.set(1, 10);
        Check.due("24 at dusk", 9, x.odds(1, 2, 0));
        Check.due("24 at dusk, below", 25, x.odds(1, 2, 1));
        x.times(2, 2);
        Check.due("24 near", 1, x.odds(2, 1, 0));
        Check.due("24 near, below", 5, x.odds(2, 1, 1));
    }

    /** Who was FOUND and freed is not FOUND at the end. */
    private static void foundAtTheEndCounts() {
        // By 1 2 HIDER 0 is FOUND at 10 and freed; by 2 1 it hides as 1 is FREE and is FOUND at 32.
        InTheGarden x = Check.garden("pp100;pp100;w01,10;w02,10;h9,1;h9,5;");
        Check.due("25 one found", 1, x.bestOrder(2, 1, 0, -1));
        Check.due("25 alike: the first", 1, x.bestOrder(2, 1, 0, 0));
        x.set(4, 1);
        x.order(2, 21);
        Check.due("14 freed is not found", 0, x.mind(0, 0));
        Check.due("14 freed is free", 2, x.mind(0, 1));
        x.order(2, 12);
        Check.due("14 found at last", 1, x.mind(0, 0));
        Check.due("14 and not freed", 1, x.mind(0, 1));
        Check.due("25 not freed", 5, x.bestOrder(2, 5, 0, -1));
        Check.due("25 so 2 first", 2, x.bestOrder(2, 5, 0, 0));
        Check.due("25 then 1", 1, x.bestOrder(2, 5, 0, 1));
        // FIRST and DEEP: 0 is FOUND, 1 has WON; OUTER: 1 is FOUND at 9, and freed as 0 comes at 10.
        InTheGarden y = Check.garden("ph100;pp100;w01,9;w02,14;h9,9;h9,1;");
        y.set(2, 7);
        y.order(1, 1);
        Check.due("26 one found by each", 0, y.bestRule(1, 0));
        y.set(4, 1);
        Check.due("26 freed by outer", 2, y.bestRule(1, 0));
        // All alike: the least, whichever RULE is told.
        for (int rule = 0; rule <= 4; rule++) {
            y.order(0, 0);
            y.set(3, rule);
            Check.due("26 of several the least, told is " + rule, 0, y.bestRule(1, 0));
        }
    }

    /**
     * TELLS of 1, 2: by 1 2: 3, 13; by 2 1: 17, 7. Taken: 1 and 1 2; 2 and 1 2 (3 against 17); 2 and 1 2 (16
     * against 24); 2 and 1 2 (29 against 31); 2 and 2 1 (42 against 38). Neither knows what the other takes now.
     */
    private static void bothByWhatWasTakenAhead() {
        InTheGarden x = Check.garden("pp100;pp100;w01,3;w12,10;w02,7;");
        int[] low = {3, 16, 29, 38, 45};
        int[] high = {13, 26, 39, 52, 59};
        for (int n = 1; n <= 5; n++) {
            Check.due("21 low of " + n, low[n - 1] * x.game(2, n, 0, 1), n * x.game(2, n, 0, 0));
            Check.due("21 high of " + n, high[n - 1] * x.game(2, n, 1, 1), n * x.game(2, n, 1, 0));
            Check.due("22 taken 1 of " + n, 1, x.taken(2, n, 1));
            Check.due("22 taken 2 of " + n, n - 1, x.taken(2, n, 2));
        }
    }
}
