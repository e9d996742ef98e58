/** Promises 1 to 7: what there is in the garden. */
public final class GardenTest {
    public static void main(String[] args) {
        newObject();
        feed();
        gardenAnswers();
        gardenFaultsOfForm();
        gardenFaultsOfSense();
        gardenOfALaterText();
        gardenRoom();
        gardenComesToWhatThereIs();
        place();
        sees();
        far();
        hider();
        Check.end("GardenTest");
    }

    private static void newObject() {
        InTheGarden x = new InTheGarden();
        Check.due("1 places", 1, x.count(0));
        for (int what = 1; what <= 7; what++) {
            Check.due("1 count " + what, 0, x.count(what));
        }
        for (int what = 11; what <= 16; what++) {
            Check.due("1 refusals " + what, 0, x.count(what));
        }
        int[] first = {40, 0, 5, 0, 0, 300, 1};
        for (int what = 0; what < 7; what++) {
            Check.due("1 setting " + what, first[what], x.set(what, first[what]));
        }
        Check.due("1 the base", 8, x.place(0, 0));
        Check.due("1 no image", -3, x.on());
        Check.due("1 no round", -3, x.found(0));
    }

    private static void feed() {
        InTheGarden x = new InTheGarden();
        Check.due("2 none", -4, x.feed(0, 0));
        Check.due("2 below", -4, x.feed(Integer.MIN_VALUE, 0));
        Check.due("2 nine", -6, x.feed(9, 0));
        Check.due("2 above", -6, x.feed(Integer.MAX_VALUE, 0));
        for (int i = 1; i <= 7; i++) {
            Check.due("2 eight more", 8 * i, x.feed(8, -1L));
        }
        Check.due("2 seven more", 63, x.feed(7, 0));
        Check.due("2 above 64", -6, x.feed(2, 0));
        Check.due("2 nothing came", 63, x.count(6));
        Check.due("2 the last", 64, x.feed(1, 0));
        Check.due("2 full", -6, x.feed(1, 0));
        Check.due("2 refused -4", 2, x.count(14));
        Check.due("2 refused -6", 4, x.count(16));
        InTheGarden y = new InTheGarden();
        // "h4,2;" and three bytes that n leaves out.
        Check.due("2 the lowest first", 5, y.feed(5, 0x7878783b322c3468L));
        Check.due("2 read", 1, y.garden());
        Check.due("2 its age", 4, y.hider(0, 0));
        Check.due("2 its pace", 2, y.hider(0, 1));
    }

    private static void gardenAnswers() {
        InTheGarden x = new InTheGarden();
        Check.due("3 statements", 5, Check.tell(x, "pp150;pk200;w12,60;v01;h15,9;"));
        Check.due("3 tape has none", 0, x.count(6));
        Check.due("3 places", 3, x.count(0));
        Check.due("3 ways", 1, x.count(1));
        Check.due("3 hiders", 1, x.count(2));
    }

    private static void form(String text, int place) {
        InTheGarden x = new InTheGarden();
        Check.due("3 \"" + text + "\"", -1000 - place, Check.tell(x, text));
        Check.due("3 nothing came", 1, x.count(0));
        Check.due("3 no hider came", 0, x.count(2));
        Check.due("3 tape has none", 0, x.count(6));
        for (int what = 11; what <= 16; what++) {
            Check.due("3 nothing is counted", 0, x.count(what));
        }
    }

    private static void gardenFaultsOfForm() {
        form("", 0);
        form(";", 0);
        form("q", 0);
        form("P", 0);
        form("\u0000", 0);
        form("\u00f0p100;", 0);
        form("p", 1);
        form("pa100;", 1);
        form("pp", 2);
        form("ppx", 2);
        form("pp1", 3);
        form("pp1;", 3);
        form("pp10;", 4);
        form("pp100", 5);
        form("pp1000;", 5);
        form("pp100,", 5);
        form("pp100;;", 6);
        form("pp100; ", 6);
        form("w0,5;", 2);
        form("w01;", 3);
        form("w01,;", 4);
        form("w01,5", 5);
        form("w01,555;", 6);
        form("v0;", 2);
        form("v012;", 3);
        form("h;", 1);
        form("h9;", 2);
        form("h9,;", 3);
        form("h9,12;", 4);
        form("h123,4;", 3);
        form("h-9,1;", 1);
        // A fault of form at the end goes ahead of one of sense at the beginning.
        form("w01,5;h9,0;pp100", 16);
        form("pp100;pp100;pp100;pp100;pp100;pp100;pp100;pp100;pp100;pp100;pp10", 64);
    }

    private static void sense(String text, int place) {
        InTheGarden x = new InTheGarden();
        Check.due("3 \"" + text + "\"", -2000 - place, Check.tell(x, text));
        Check.due("3 nothing came", 1, x.count(0));
        Check.due("3 no way came", 0, x.count(1));
        Check.due("3 no hider came", 0, x.count(2));
        Check.due("3 tape has none", 0, x.count(6));
        Check.due("3 nothing is counted", 0, x.count(11) + x.count(12) + x.count(13) + x.count(14) + x.count(16));
    }

    private static void gardenFaultsOfSense() {
        sense("w01,5;", 0);
        sense("w01,5;pp100;", 0);
        sense("pp100;w00,5;", 6);
        sense("pp100;w11,5;", 6);
        sense("pp100;w01,0;", 6);
        sense("pp100;w01,00;", 6);
        sense("pp100;w01,61;", 6);
        sense("pp100;w02,1;", 6);
        sense("pp100;w91,1;", 6);
        sense("pp100;w01,1;w01,2;", 12);
        sense("pp100;w01,1;w10,2;", 12);
        sense("v01;", 0);
        sense("v00;", 0);
        sense("pp100;v10;v10;", 10);
        sense("pp100;v11;", 6);
        sense("pp100;v18;", 6);
        sense("h1,5;", 0);
        sense("h01,5;", 0);
        sense("h16,5;", 0);
        sense("h9,0;", 0);
        sense("h9,1;h9,9;h99,9;h1,1;", 10);
    }

    /** What an earlier, longer text left behind must not be read. */
    private static void gardenOfALaterText() {
        InTheGarden x = Check.garden("pp100;pp100;h9,5;");
        Check.due("3 the end", -1005, Check.tell(x, "pp100"));
        Check.due("3 the end of the second", -1008, Check.tell(x, "pp100;pp"));
        Check.due("3 empty", -1000, x.garden());
        Check.due("3 a shorter one", 1, Check.tell(x, "h9,5;"));
        Check.due("3 places", 3, x.count(0));
        Check.due("3 hiders", 2, x.count(2));
    }

    private static void gardenRoom() {
        InTheGarden x = Check.garden("pp100;pp100;pp100;pp100;pp100;pp100;");
        Check.due("3 an eighth place", -2006, Check.tell(x, "pp100;pp100;"));
        Check.due("3 none of both", 7, x.count(0));
        Check.due("3 a seventh", 1, Check.tell(x, "pp100;"));
        Check.due("3 another", -2000, Check.tell(x, "pp100;"));
        Check.due("3 seven ways", 7, Check.tell(x, "w01,1;w02,1;w03,1;w04,1;w05,1;w06,1;w07,1;"));
        Check.due("3 six ways", 6, Check.tell(x, "w12,1;w13,1;w14,1;w15,1;w16,1;w17,60;"));
        Check.due("3 a fifteenth way", -2006, Check.tell(x, "w23,1;w24,1;"));
        Check.due("3 a fourteenth way", 1, Check.tell(x, "w23,1;"));
        Check.due("3 ways", 14, x.count(1));
        Check.due("3 eight hiders", 8, Check.tell(x, "h2,1;h15,9;h02,1;h2,1;h2,1;h2,1;h2,1;h2,1;"));
        Check.due("3 a ninth hider", -2000, Check.tell(x, "h2,1;"));
        Check.due("3 hiders", 8, x.count(2));
    }

    private static void gardenComesToWhatThereIs() {
        InTheGarden x = Check.garden("pp100;w01,5;v01;h9,5;");
        Check.due("3 a way twice", -2000, Check.tell(x, "w10,7;"));
        Check.due("3 a view twice", -2000, Check.tell(x, "v01;"));
        Check.due("3 the other view", 1, Check.tell(x, "v10;"));
        Check.due("3 more", 3, Check.tell(x, "pk234;w12,4;h3,3;"));
        Check.due("3 far over both", 9, x.far(0, 2));
        Check.due("3 first is as it was", 0, x.place(1, 0));
        Check.due("3 hiders", 2, x.count(2));
        Check.due("3 a fault behind a place", -2006, Check.tell(x, "pp100;h0,1;"));
        Check.due("3 nothing of it", 3, x.count(0));
        x.round(1);
        x.times(2, 7);
        x.order(1, 2);
        Check.due("3 and more", 1, Check.tell(x, "pp100;"));
        Check.due("3 nothing goes by it: times", 7, x.place(2, 3));
        Check.due("3 nothing goes by it: order", 1, x.count(4));
        Check.due("3 nothing goes by it: round", 1, x.count(7));
    }

    private static void place() {
        InTheGarden x = Check.garden("pp100;pk212;ps399;pg401;pm550;pn610;ph705;", "h9,9;");
        for (int kind = 0; kind < 7; kind++) {
            Check.due("4 kind", kind, x.place(kind + 1, 0));
        }
        Check.due("4 kind d", 7, Check.garden("pd087;").place(1, 0));
        Check.due("4 room", 3, x.place(3, 1));
        Check.due("4 hidden", 99, x.place(3, 2));
        Check.due("4 hidden 01", 1, x.place(4, 2));
        Check.due("4 times", 0, x.place(3, 3));
        x.times(3, 12);
        Check.due("4 times told", 12, x.place(3, 3));
        Check.due("4 base kind", 8, x.place(0, 0));
        Check.due("4 base room", 0, x.place(0, 1));
        Check.due("4 base hidden", 0, x.place(0, 2));
        Check.due("4 base times", 0, x.place(0, 3));
        Check.due("4 what below", -2, x.place(0, -1));
        Check.due("4 what above", -2, x.place(7, 4));
        Check.due("4 nobody below", -1, x.place(-1, 0));
        Check.due("4 nobody above", -1, x.place(8, 0));
        Check.due("4 nobody first", -1, x.place(8, 4));
        Check.due("4 refused -1", 3, x.count(11));
        Check.due("4 refused -2", 2, x.count(12));
    }

    private static void sees() {
        InTheGarden x = Check.garden("pp100;pp100;v01;v20;w12,1;");
        Check.due("5 told", 1, x.sees(0, 1));
        Check.due("5 not the other way", 0, x.sees(1, 0));
        Check.due("5 the base is seen", 1, x.sees(2, 0));
        Check.due("5 itself", 1, x.sees(2, 2));
        Check.due("5 not by a way", 0, x.sees(1, 2));
        Check.due("5 not over another", 0, x.sees(2, 1));
        Check.due("5 nobody from", -1, x.sees(3, 0));
        Check.due("5 nobody to", -1, x.sees(0, 3));
        Check.due("5 nobody below", -1, x.sees(0, -1));
        Check.due("5 refused", 3, x.count(11));
    }

    private static void far() {
        InTheGarden x = Check.garden("pp100;pp100;pp100;pp100;w01,20;w02,5;w12,6;w34,60;");
        Check.due("6 around is less", 11, x.far(0, 1));
        Check.due("6 either way", 11, x.far(1, 0));
        Check.due("6 one way", 6, x.far(2, 1));
        Check.due("6 itself", 0, x.far(3, 3));
        Check.due("6 none", -9, x.far(0, 3));
        Check.due("6 apart from the base", 60, x.far(4, 3));
        Check.due("6 nobody", -1, x.far(0, 5));
        Check.due("6 nobody from", -1, x.far(-1, 0));
        Check.due("6 none is no refusal", 2, x.count(11));
        Check.tell(x, "w13,1;");
        Check.due("6 by a new way", 72, x.far(0, 4));
    }

    private static void hider() {
        InTheGarden x = Check.garden("h2,1;h15,9;");
        Check.due("7 age", 2, x.hider(0, 0));
        Check.due("7 pace", 9, x.hider(1, 1));
        Check.due("7 nobody", -1, x.hider(2, 0));
        Check.due("7 nobody below", -1, x.hider(-1, 7));
        Check.due("7 other", -2, x.hider(1, 2));
        Check.due("7 other below", -2, x.hider(1, -1));
        Check.due("7 refused -1", 2, x.count(11));
        Check.due("7 refused -2", 2, x.count(12));
    }
}
