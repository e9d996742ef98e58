/** Objects in states at which boundaries are looked at; each call makes a new one by the same calls. */
enum States {
    EMPTY, MIDDLE, FULL;

    InTheGarden make() {
        return this == EMPTY ? new InTheGarden() : this == MIDDLE ? middle() : full();
    }

    int lastPlace() {
        return this == EMPTY ? 0 : this == MIDDLE ? 5 : 7;
    }

    int lastHider() {
        return this == EMPTY ? -1 : this == MIDDLE ? 4 : 7;
    }

    boolean played() {
        return this != EMPTY;
    }

    /** Whether PLACES 1 .. k are there and can be come to. */
    boolean comesTo(int k) {
        return k <= (this == EMPTY ? 0 : this == MIDDLE ? 3 : 7);
    }

    /** PLACES 4 and 5 can not be come to; HIDER 4 came behind the latest ROUND; something is everywhere. */
    private static InTheGarden middle() {
        InTheGarden x = Check.garden("pp250;pk190;pd105;ph330;w01,5;w12,9;w23,4;", "v01;v13;v31;v42;h9,5;h4,2;h12,9;h15,1;");
        x.set(9, 0);
        x.times(2, 7);
        x.set(3, 2);
        x.image();
        Check.tell(x, "pg122;");
        x.times(1, 3);
        x.set(2, 11);
        x.order(3, 213);
        x.round(3);
        for (int i = 0; i < 3 && x.found(i) >= 0; i++) {
            x.row(x.found(i));
        }
        Check.tell(x, "h7,7;");
        Check.feed(x, "v05;h9,5;");
        return x;
    }

    private static InTheGarden full() {
        InTheGarden x = Check.garden("pp150;pk250;ps350;pg450;pm550;pn650;ph750;",
                "w01,1;w02,2;w03,3;w04,4;w05,5;w06,6;w07,7;", "w12,3;w13,1;w14,1;w15,1;w16,1;w17,60;w23,9;",
                "h2,1;h15,9;h9,5;h9,5;h5,5;h6,6;h7,7;h8,8;");
        x.image();
        int[] most = {99, 50, 60, 4, 1, 900, 9};
        for (int what = 0; what < 7; what++) {
            x.set(what, most[what]);
        }
        for (int place = 1; place <= 7; place++) {
            x.times(place, 99);
        }
        x.order(8, 17654321);
        x.round(Integer.MIN_VALUE);
        for (int i = 0; i < 8; i++) {
            x.row(Math.max(0, x.found(i)));
        }
        Check.feed(x, "v01;v02;v03;v04;v05;v06;v07;v10;v12;v13;v14;v15;v16;v17;v20;v21;");
        return x;
    }
}
