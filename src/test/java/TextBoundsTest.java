/** Boundaries of promises 1 to 7: THE TAPE, the form and the sense of a text, room in the garden. */
public final class TextBoundsTest {
    private static final String DIGITS = "0123456789";

    public static void main(String[] args) {
        newObject();
        tape();
        bytesOfTheTape();
        everyByte();
        longestAndShortest();
        everyRoomAndHidden();
        everyWaySeconds();
        everyAgeAndPace();
        everyPairOfPlaces();
        roomForPlaces();
        roomForWays();
        roomForHiders();
        roomForViews();
        onceAlone();
        aheadOfItInTheText();
        firstFaultOfAll();
        aFaultLeavesAll();
        nothingGoesByIt();
        farEnds();
        calls();
        Check.end("TextBoundsTest");
    }

    private static void newObject() {
        InTheGarden x = new InTheGarden();
        Check.due("1 the base alone: no way to another", -1, x.far(0, 1));
        Check.due("1 the base sees itself", 1, x.sees(0, 0));
        Check.due("1 no hider", -1, x.hider(0, 0));
        Check.due("1 nobody is found", 0, x.round(1));
        Check.due("1 may go", 0, x.mayGo());
        Check.due("1 all is seen", 0, x.allSeen());
        Check.due("1 fewest", 1, x.fewest());
        Check.due("1 an empty order is told", 0, x.order(0, 5));
        Check.due("1 no place in it can be", -1, x.order(1, 1));
        Check.due("1 an image of it", 1, x.image());
        Check.due("1 an empty tape", -1000, x.garden());
    }

    private static void tape() {
        for (int n = 1; n <= 8; n++) {
            InTheGarden x = new InTheGarden();
            int has = 0;
            while (has + n <= 64) {
                has += n;
                Check.due("2 by " + n, has, x.feed(n, 0));
            }
            for (int more = 64 - has + 1; more <= 8; more++) {
                Check.due("2 " + more + " above 64", -6, x.feed(more, 0));
            }
            Check.due("2 above, but n below is told first", -4, x.feed(0, 0));
            Check.due("2 nothing came", has, x.count(6));
            for (; has < 64; has++) {
                Check.due("2 up to 64", has + 1, x.feed(1, 0));
            }
            Check.due("2 full", -6, x.feed(1, 0));
            Check.due("2 full, n above", -6, x.feed(9, 0));
            Check.due("3 and read", -1000, x.garden());
            Check.due("2 empty again", 0, x.count(6));
            Check.due("2 room again", 8, x.feed(8, 0));
        }
    }

    /** The sign of the long is the highest byte's; what lies above n bytes does not come. */
    private static void bytesOfTheTape() {
        InTheGarden x = new InTheGarden();
        x.feed(8, Check.pack(new byte[] {'h', '2', ',', '1', ';', 'h', '9', (byte) ','}, 0, 8));
        x.feed(2, 0x7777777777773b39L);
        Check.due("2 eight and two", 2, x.garden());
        x.feed(8, 0xff00000000000000L | 'h' | '3' << 8 | ',' << 16 | (long) '3' << 24 | (long) ';' << 32);
        Check.due("2 zero bytes come, too", -1005, x.garden());
        x.feed(5, 0xff00000000000000L | 'h' | '3' << 8 | ',' << 16 | (long) '3' << 24 | (long) ';' << 32);
        Check.due("2 not behind n", 1, x.garden());
        x.feed(8, Check.pack(new byte[] {'h', '3', ',', '3', ';', 'h', '9', (byte) 0x80}, 0, 8));
        Check.due("2 the highest of all", -1007, x.garden());
        x.feed(1, -1L);
        x.feed(4, 0x3b332c33L);
        Check.due("2 a byte of 255", -1000, x.garden());
        Check.due("2 hiders", 3, x.count(2));
    }

    /** What may stand at each place of a statement, told as sets of bytes behind a beginning that holds. */
    private static void everyByte() {
        String[] ahead = {"", "h9,5;", "pp100;v01;h15,9;"};
        for (String first : ahead) {
            bytesAt(first, "", "pwvh");
            bytesAt(first, "p", "pksgmnhd");
            bytesAt(first, "pd", DIGITS);
            bytesAt(first, "pd9", DIGITS);
            bytesAt(first, "pd90", DIGITS);
            bytesAt(first, "pd900", ";");
            bytesAt(first, "w", DIGITS);
            bytesAt(first, "w9", DIGITS);
            bytesAt(first, "w98", ",");
            bytesAt(first, "w98,", DIGITS);
            bytesAt(first, "w98,0", DIGITS + ";");
            bytesAt(first, "w98,61", ";");
            bytesAt(first, "v", DIGITS);
            bytesAt(first, "v0", DIGITS);
            bytesAt(first, "v00", ";");
            bytesAt(first, "h", DIGITS);
            bytesAt(first, "h0", DIGITS + ",");
            bytesAt(first, "h16", ",");
            bytesAt(first, "h16,", DIGITS);
            bytesAt(first, "h16,0", ";");
        }
    }

    private static void bytesAt(String first, String begun, String may) {
        for (int sign = 0; sign < 256; sign++) {
            String text = first + begun + (char) sign;
            boolean fits = may.indexOf(sign) >= 0;
            int due = -1000 - (fits ? text.length() : text.length() - 1);
            if (fits && sign == ';') {
                due = begun.startsWith("p") ? (int) (first + ";").chars().filter(c -> c == ';').count()
                        : -2000 - first.length();
            }
            InTheGarden x = new InTheGarden();
            Check.due("3 byte " + sign + " behind " + first + begun, due, Check.tell(x, text));
            Check.due("3 nothing came of it", due > 0 ? x.count(0) : 1, x.count(0));
            Check.due("3 the tape has none", 0, x.count(6));
            Check.due("3 nothing is counted", 0, x.count(11) + x.count(12) + x.count(13) + x.count(14) + x.count(16));
        }
    }

    private static void longestAndShortest() {
        Check.due("3 the shortest statement", 1, Check.tell(Check.garden("pp100;"), "v01;"));
        InTheGarden x = Check.garden("pp100;pp100;pp100;pp100;pp100;pp100;pp100;");
        String most = "v01;v02;v03;v04;v05;v06;v07;v10;v12;v13;v14;v15;v16;v17;v20;v21;";
        Check.due("3 64 bytes", 64, most.length());
        Check.due("3 the most statements", 16, Check.tell(x, most));
        Check.due("3 the first of them", 1, x.sees(0, 1));
        Check.due("3 the last of them", 1, x.sees(2, 1));
        String next = "v23;v24;v25;v26;v27;v30;v31;v32;v34;v35;v36;v37;v40;v41;v42;";
        Check.due("3 something lacks at 63", -1063, Check.tell(x, next + "v43"));
        Check.due("3 the last byte of 64 does not fit", -1063, Check.tell(x, next + "v43,"));
        Check.due("3 something lacks at 64", -1064, Check.tell(x, next + "w43,"));
        Check.due("3 the last statement of 64 has the fault", -2060, Check.tell(x, next + "v44;"));
        Check.due("3 nothing of these came", 0, x.sees(2, 3));
    }

    private static void everyRoomAndHidden() {
        for (int room = 0; room <= 9; room++) {
            for (int hidden = 0; hidden <= 99; hidden++) {
                InTheGarden x = Check.garden("pp" + room + hidden / 10 + hidden % 10 + ";");
                Check.due("4 room", room, x.place(1, 1));
                Check.due("4 hidden", hidden, x.place(1, 2));
                Check.due("4 times", 0, x.place(1, 3));
            }
        }
        for (int kind = 0; kind < 8; kind++) {
            Check.due("4 kind", kind, Check.garden("p" + "pksgmnhd".charAt(kind) + "100;").place(1, 0));
        }
    }

    /** 0 to 99 with and without a nought ahead. */
    private static void everyWaySeconds() {
        for (int seconds = 0; seconds <= 99; seconds++) {
            waySeconds("" + seconds / 10 + seconds % 10, seconds);
            if (seconds <= 9) {
                waySeconds("" + seconds, seconds);
            }
        }
    }

    private static void waySeconds(String told, int seconds) {
        InTheGarden x = Check.garden("pp100;");
        boolean fits = seconds >= 1 && seconds <= 60;
        Check.due("3 a way of " + told, fits ? 1 : -2000, Check.tell(x, "w01," + told + ";"));
        Check.due("6 its far", fits ? seconds : -9, x.far(1, 0));
        Check.due("3 ways", fits ? 1 : 0, x.count(1));
    }

    private static void everyAgeAndPace() {
        for (int age = 0; age <= 99; age++) {
            for (int pace = 0; pace <= 9; pace++) {
                ageAndPace("" + age / 10 + age % 10, age, pace);
                if (age <= 9) {
                    ageAndPace("" + age, age, pace);
                }
            }
        }
    }

    private static void ageAndPace(String told, int age, int pace) {
        InTheGarden x = new InTheGarden();
        boolean fits = age >= 2 && age <= 15 && pace >= 1;
        Check.due("3 age " + told + ", pace " + pace, fits ? 1 : -2000, Check.tell(x, "h" + told + "," + pace + ";"));
        Check.due("3 hiders", fits ? 1 : 0, x.count(2));
        Check.due("7 age", fits ? age : -1, x.hider(0, 0));
        Check.due("7 pace", fits ? pace : -1, x.hider(0, 1));
    }

    /** All pairs of digits, as PLACES 0 to 2 are there, and as all eight are. */
    private static void everyPairOfPlaces() {
        String[] gardens = {"pp100;pp100;", "pp100;pp100;pp100;pp100;pp100;pp100;pp100;"};
        for (String garden : gardens) {
            int last = garden.length() / 6;
            for (int pair = 0; pair <= 99; pair++) {
                int one = pair / 10;
                int other = pair % 10;
                boolean fits = one != other && one <= last && other <= last;
                InTheGarden x = Check.garden(garden);
                Check.due("3 a way " + pair, fits ? 1 : -2000, Check.tell(x, "w" + one + other + ",7;"));
                Check.due("3 ways", fits ? 1 : 0, x.count(1));
                Check.due("3 a view " + pair, fits ? 1 : -2000, Check.tell(x, "v" + one + other + ";"));
                Check.due("5 sees", fits || one == other && one <= last ? 1 : one <= last && other <= last ? 0 : -1,
                        x.sees(one, other));
            }
        }
    }

    private static void roomForPlaces() {
        String seven = "pp100;pp100;pp100;pp100;pp100;pp100;pp100;";
        Check.due("3 seven in one text", 7, Check.tell(new InTheGarden(), seven));
        InTheGarden x = new InTheGarden();
        Check.due("3 eight in one text", -2042, Check.tell(x, seven + "pp100;"));
        Check.due("3 none of them", 1, x.count(0));
        for (int i = 1; i <= 7; i++) {
            Check.due("3 one more", 1, Check.tell(x, "pp1" + i + i + ";"));
            Check.due("3 places", i + 1, x.count(0));
        }
        Check.due("3 an eighth", -2000, Check.tell(x, "pp100;"));
        Check.due("3 other statements find room", 2, Check.tell(x, "h9,9;w07,1;"));
        Check.due("3 the last way to it", 1, x.far(7, 0));
        for (int place = 1; place <= 7; place++) {
            Check.due("4 as told", 11 * place, x.place(place, 2));
        }
        Check.due("4 no more", -1, x.place(8, 2));
    }

    private static InTheGarden eightPlaces() {
        return Check.garden("pp100;pp100;pp100;pp100;pp100;pp100;pp100;");
    }

    private static void roomForWays() {
        InTheGarden x = eightPlaces();
        int ways = 0;
        for (int one = 0; one < 7 && ways < 14; one++) {
            for (int other = one + 1; other <= 7 && ways < 14; other++) {
                ways++;
                Check.due("3 one way more", 1, Check.tell(x, "w" + other + one + "," + (20 + ways) + ";"));
                Check.due("3 ways", ways, x.count(1));
            }
        }
        Check.due("3 a fifteenth", -2000, Check.tell(x, "w67,1;"));
        Check.due("3 a fifteenth behind a view", -2004, Check.tell(x, "v67;w67,1;"));
        Check.due("3 no view came", 0, x.sees(6, 7));
        Check.due("3 one of the old ones", -2000, Check.tell(x, "w01,1;"));
        Check.due("3 ways are as they were", 14, x.count(1));
        Check.due("6 and their seconds", 21, x.far(0, 1));
        InTheGarden y = eightPlaces();
        Check.tell(y, "w01,1;w02,1;w03,1;w04,1;w05,1;w06,1;");
        Check.due("3 eight more in one text", 8, Check.tell(y, "w07,1;w12,1;w13,1;w14,1;w15,1;w16,1;w17,1;w23,1;"));
        Check.due("3 fourteen", 14, y.count(1));
        InTheGarden z = eightPlaces();
        Check.tell(z, "w01,1;w02,1;w03,1;w04,1;w05,1;w06,1;");
        Check.due("3 the fifteenth in one text", -2048, Check.tell(z, "w07,1;w12,1;w13,1;w14,1;w15,1;w16,1;w17,1;w23,1;w24,1;"));
        Check.due("3 none of these", 6, z.count(1));
    }

    private static void roomForHiders() {
        InTheGarden x = new InTheGarden();
        Check.due("3 nine in one text", -2040, Check.tell(x, "h9,9;h9,9;h9,9;h9,9;h9,9;h9,9;h9,9;h9,9;h9,9;"));
        Check.due("3 none of them", 0, x.count(2));
        for (int i = 1; i <= 8; i++) {
            Check.due("3 one more", 1, Check.tell(x, "h" + (i + 1) + "," + i + ";"));
            Check.due("3 hiders", i, x.count(2));
        }
        Check.due("3 a ninth", -2000, Check.tell(x, "h9,9;"));
        Check.due("3 a place finds room", 1, Check.tell(x, "pp100;"));
        for (int i = 0; i < 8; i++) {
            Check.due("7 age as told", i + 2, x.hider(i, 0));
            Check.due("7 pace as told", i + 1, x.hider(i, 1));
        }
        Check.due("7 no more", -1, x.hider(8, 0));
        Check.due("3 eight in one text", 8, Check.tell(new InTheGarden(), "h9,9;h9,9;h9,9;h9,9;h9,9;h9,9;h9,9;h9,9;"));
    }

    /** There is room for every view: 56. */
    private static void roomForViews() {
        InTheGarden x = eightPlaces();
        for (int from = 0; from < 8; from++) {
            for (int to = 0; to < 8; to++) {
                if (from != to) {
                    Check.due("3 view " + from + to, 1, Check.tell(x, "v" + from + to + ";"));
                }
            }
        }
        for (int from = 0; from < 8; from++) {
            Check.due("5 all", 1, x.sees(from, (from + 3) % 8));
            Check.due("3 twice", -2000, Check.tell(x, "v" + from + (from + 5) % 8 + ";"));
        }
        Check.due("20 the base sees all", 1, x.fewest());
        Check.due("19 from the base", 0, x.allSeen());
    }

    private static void onceAlone() {
        InTheGarden x = Check.garden("pp100;pp100;w01,5;v01;");
        Check.due("3 the same way", -2000, Check.tell(x, "w01,5;"));
        Check.due("3 another length", -2000, Check.tell(x, "w01,6;"));
        Check.due("3 from the other end", -2000, Check.tell(x, "w10,5;"));
        Check.due("6 as it was", 5, x.far(0, 1));
        Check.due("3 between others", 1, Check.tell(x, "w02,5;"));
        Check.due("3 the same view", -2000, Check.tell(x, "v01;"));
        Check.due("5 not from there", 0, x.sees(1, 0));
        Check.due("3 from there", 1, Check.tell(x, "v10;"));
        Check.due("3 from there twice", -2000, Check.tell(x, "v10;"));
        Check.due("3 twice in one text", -2004, Check.tell(x, "v12;v12;"));
        Check.due("3 twice in one text, a way", -2006, Check.tell(x, "w12,5;w21,5;"));
        Check.due("3 not even the first", 0, x.sees(1, 2));
        Check.due("3 not even the first way", 2, x.count(1));
        Check.due("3 a way is no view", 2, Check.tell(x, "w12,5;v12;"));
        Check.due("3 places may be alike", 2, Check.tell(x, "pp100;pp100;"));
        Check.due("3 hiders may be alike", 2, Check.tell(x, "h9,9;h9,9;"));
    }

    private static void aheadOfItInTheText() {
        Check.due("3 behind its place", 3, Check.tell(new InTheGarden(), "pp100;w01,5;v10;"));
        Check.due("3 a way ahead of its place", -2000, Check.tell(new InTheGarden(), "w01,5;pp100;"));
        Check.due("3 a view ahead of its place", -2005, Check.tell(new InTheGarden(), "h9,9;v10;pp100;"));
        Check.due("3 to the second place", -2006, Check.tell(new InTheGarden(), "pp100;w12,5;pp100;"));
        Check.due("3 to the base alone", -2000, Check.tell(new InTheGarden(), "w00,5;"));
        InTheGarden x = Check.garden("pp100;");
        Check.due("3 with one from an earlier text", 2, Check.tell(x, "pp100;w12,5;"));
        Check.due("3 the eighth place ahead of another fault", -2036,
                Check.tell(x, "pp100;pp100;pp100;pp100;pp100;w01,5;pp100;h0,0;"));
        Check.due("3 none of them", 3, x.count(0));
    }

    private static void firstFaultOfAll() {
        Check.due("3 form goes ahead of sense", -1010, Check.tell(new InTheGarden(), "h0,0;w00,0"));
        Check.due("3 the first byte of two", -1001, Check.tell(new InTheGarden(), "px100;q"));
        Check.due("3 the first statement of two", -2005, Check.tell(new InTheGarden(), "h9,9;h1,1;w00,0;"));
        Check.due("3 the letter, not the number", -2000, Check.tell(new InTheGarden(), "h15,0;"));
        Check.due("3 the end behind faults of sense", -1014, Check.tell(new InTheGarden(), "h1,1;w00,0;v00"));
        Check.due("3 a byte behind faults of sense", -1014, Check.tell(new InTheGarden(), "h1,1;w00,0;v00,"));
    }

    /** By a FAULT nothing changes but THE TAPE, which has none behind it. */
    private static void aFaultLeavesAll() {
        String[] texts = {"", "q", "h9,9;pp100", "pp100;h9,9;w00,1;", "w45,9;v45;h9,9;h1,1;", "v50;v50;",
            "pp199;pp199;pp199;pp199;pp199;pp199;pp199;pp199;", "w04,1;w05,1;w14,1;w00,1;"};
        for (States state : States.values()) {
            InTheGarden clean = state.make();
            clean.garden();
            Look before = new Look(clean);
            for (String text : texts) {
                InTheGarden x = state.make();
                x.garden();
                int answer = Check.tell(x, text);
                Check.isTrue("3 \"" + text + "\" is a fault in " + state + ": " + answer, answer <= -1000);
                String other = new Look(x).otherThan(before, 0);
                Check.isTrue("3 \"" + text + "\" leaves all as it was in " + state + ": " + other, other.isEmpty());
            }
        }
    }

    /** What was told, played and kept is as it was behind a text that comes. */
    private static void nothingGoesByIt() {
        InTheGarden x = States.MIDDLE.make();
        InTheGarden y = States.MIDDLE.make();
        Check.due("3 the tape as it is", 2, x.garden());
        for (int what : new int[] {0, 1, 3, 4, 5, 7, 11, 12, 13, 14, 16}) {
            Check.due("3 count(" + what + ")", y.count(what), x.count(what));
        }
        int[] least = {1, 0, 0, 0, 0, 10, 0};
        for (int what = 0; what < 7; what++) {
            Check.due("3 setting " + what, y.set(what, least[what]), x.set(what, least[what]));
        }
        for (int hider = 0; hider < 4; hider++) {
            for (int what = 0; what < 3; what++) {
                Check.due("3 of(" + hider + ", " + what + ")", y.of(hider, what), x.of(hider, what));
            }
            Check.due("3 found(" + hider + ")", y.found(hider), x.found(hider));
        }
        Check.due("3 the row", y.judge(), x.judge());
        Check.due("3 the image", y.on(), x.on());
        Check.due("3 hiders of the image", y.count(2), x.count(2));
    }

    private static void farEnds() {
        InTheGarden x = eightPlaces();
        Check.due("6 none", -9, x.far(0, 7));
        Check.due("6 itself, apart", 0, x.far(7, 7));
        Check.tell(x, "w01,60;w12,60;w23,60;w34,60;w45,60;w56,60;w67,60;");
        Check.due("6 the farthest that can be", 420, x.far(0, 7));
        Check.due("6 the other way", 420, x.far(7, 0));
        Check.due("6 between", 300, x.far(6, 1));
        Check.tell(x, "w07,60;");
        Check.due("6 around a ring", 240, x.far(3, 7));
        Check.due("6 the short side of it", 180, x.far(0, 3));
        Check.due("6 straight", 60, x.far(0, 7));
        InTheGarden y = Check.garden("pp100;pp100;w01,2;w12,1;w02,3;");
        Check.due("6 alike both ways", 3, y.far(0, 2));
    }

    /** The last of an object's 512 calls is as due as the first. */
    private static void calls() {
        InTheGarden x = new InTheGarden();
        for (int i = 0; i < 511; i++) {
            x.round(i);
        }
        Check.due("13 rounds in 511 calls", 511, x.count(7));
        InTheGarden y = new InTheGarden();
        for (int i = 0; i < 511; i++) {
            y.row(-1);
        }
        Check.due("31 refusals in 511 calls", 511, y.count(14));
    }
}
