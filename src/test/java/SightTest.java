/** Promises 17 to 20: TABLE, MAY GO, ALL SEEN, FEWEST. */
public final class SightTest {
    public static void main(String[] args) {
        table();
        mayGo();
        allSeen();
        fewest();
        Check.end("SightTest");
    }

    private static void table() {
        InTheGarden x = Check.garden("pp100;ph000;pp100;pp100;w01,9;w02,10;w03,24;h9,5;h9,9;");
        // RUNS of 0: 9, 15, 24; of 1: 6, 12, 17; MARGIN 5; BACK at 3: 24.
        Check.due("17 from 1 and 2", 0b0110, x.table(0, 3));
        Check.due("17 hers, too", 0b1110, x.table(1, 3));
        x.set(2, 9);
        Check.due("17 not less", 0b0010, x.table(0, 3));
        x.set(2, 0);
        Check.due("17 at 2, from 1", 0b0010, x.table(0, 2));
        Check.due("17 at the base none", 0, x.table(1, 0));
        Check.due("17 can not come", -3, x.table(0, 4));
        Check.due("17 no hider first", -1, x.table(2, 4));
        Check.due("17 no place", -1, x.table(0, 5));
        Check.due("17 no place below", -1, x.table(0, -1));
        Check.due("17 refused", 3, x.count(11));
        Check.due("17 refused state", 1, x.count(13));
    }

    private static void mayGo() {
        Check.due("18 the base alone", 0, new InTheGarden().mayGo());
        InTheGarden x = Check.garden("pp100;pp100;pp100;pp100;w01,9;w02,14;w03,20;");
        Check.due("18 nobody runs: the farthest", 3, x.mayGo());
        Check.tell(x, "h9,5;");
        // From 1 it needs 9 and 5: she may be 14 off, not 20 (15 would do).
        Check.due("18 up to 14", 2, x.mayGo());
        x.set(2, 4);
        Check.due("18 less at 1 alone, but from any other", 1, x.mayGo());
        x.set(2, 11);
        Check.due("18 margin 11", 3, x.mayGo());
        InTheGarden y = Check.garden("pp000;pp100;pp100;w01,2;w02,20;w03,20;h9,5;");
        // 1 has no ROOM; from 2 and 3 it needs 20 and 5; of 2 and 3, alike far, the least.
        Check.due("18 no room there", 2, y.mayGo());
        InTheGarden z = Check.garden("pp100;pp000;w01,2;w12,20;h9,5;");
        z.set(2, 0);
        Check.due("18 from 1 it would run", 1, z.mayGo());
        InTheGarden own = Check.garden("pp100;w01,20;h9,9;");
        own.set(2, 0);
        Check.due("18 her own place does not count", 1, own.mayGo());
    }

    private static void allSeen() {
        Check.due("19 the base alone", 0, new InTheGarden().allSeen());
        InTheGarden x = Check.garden("pp100;pp100;pp100;w01,4;w02,7;w03,9;");
        // 1, 2 and 3 from a star: 4 4 7 7 9.
        Check.due("19 all come to", 31, x.allSeen());
        Check.tell(x, "v02;");
        Check.due("19 one is seen from the base", 17, x.allSeen());
        Check.tell(x, "v13;");
        Check.due("19 one is seen from another", 4, x.allSeen());
        // 4 can be seen from 2 alone: 0 2 0 1, or so.
        Check.tell(x, "pp100;v24;");
        Check.due("19 and one that can be seen alone", 4 + 4 + 7, x.allSeen());
        // 5 can neither be come to nor be seen.
        Check.tell(x, "pp100;v51;");
        Check.due("19 not one that can not", 15, x.allSeen());
        InTheGarden line = Check.garden("pp100;pp100;pp100;w12,3;w01,3;w23,3;w03,20;");
        Check.due("19 by a line", 9, line.allSeen());
        // 2 first: 1, back 1 and 2, on 3.
        Check.due("19 the near end first", 7, Check.garden("pp100;pp100;pp100;w02,1;w01,2;w13,3;").allSeen());
        Check.due("19 one apart", 5, Check.garden("pp100;pp100;w01,5;").allSeen());
        InTheGarden full = Check.garden("pp100;pp100;pp100;pp100;pp100;pp100;pp100;",
                "w01,1;w02,2;w03,3;w04,4;w05,5;w06,6;w07,7;");
        // Each twice but the last, which is the farthest.
        Check.due("19 all seven", 2 * 21 + 7, full.allSeen());
        Check.due("20 all eight", 255, full.fewest());
    }

    private static void fewest() {
        Check.due("20 the base alone", 1, new InTheGarden().fewest());
        InTheGarden x = Check.garden("pp100;pp100;pp100;");
        Check.due("20 each sees itself", 0b1111, x.fewest());
        Check.tell(x, "v01;v12;v23;");
        Check.due("20 two", 0b0101, x.fewest());
        Check.tell(x, "v30;");
        Check.due("20 of several the least", 0b0101, x.fewest());
        Check.tell(x, "v02;");
        Check.due("20 less as bits", 0b0101, x.fewest());
        Check.tell(x, "v10;v13;");
        Check.due("20 one", 0b0010, x.fewest());
        InTheGarden y = Check.garden("pp100;pp100;pp100;v10;v12;v30;v31;v20;");
        // {1, 3} (10) sees all; {2, 3} (12) as well.
        Check.due("20 the least of two", 0b1010, y.fewest());
        Check.due("20 from the base", 0b0001, Check.garden("pp100;pp100;v01;v02;v10;v12;").fewest());
    }
}
