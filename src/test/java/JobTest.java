/** Promises 1 to 7: a new object, the tape and the JOB. */
public final class JobTest {
    public static void main(String[] args) {
        newObject();
        tape();
        clauses();
        numbersTold();
        screws();
        syntax();
        bounds();
        twice();
        room();
        late();
        jobForgets();
        Checks.finish();
    }

    private static void newObject() {
        FourInks x = new FourInks();
        int[] plain = {100, 100, 0, 1, 2, 0, 3, 1, 0, -1};
        for (int what = 0; what < plain.length; what++) {
            Checks.due("new told " + what, x.told(what), plain[what]);
        }
        for (int what = 0; what < 5; what++) {
            Checks.due("new count " + what, x.count(what), 0);
        }
        Checks.due("new fault 0", x.fault(0), 0);
        Checks.due("new fault 1", x.fault(1), -1);
        Checks.due("new held", x.held(12, 12, 12, 12), -4);
        Checks.due("new turned", x.turned(0), -99);
        Checks.due("new spread", x.spread(0), -99);
        Checks.due("new layers", x.layers(-1), -1);
        Checks.due("new layers of zone 0", x.layers(0), -1);
    }

    private static void tape() {
        FourInks x = new FourInks();
        for (int i = 1; i <= 45; i++) {
            Checks.due("feed " + i, x.feed(0, 0, 0, 0, 0), 20 * i);
        }
        Checks.due("feed beyond 900", x.feed(0, 0, 0, 0, 0), -3);
        Checks.due("bytes of a full tape", x.count(4), 900);
        Checks.due("end(901)", x.end(901), -1);
        Checks.due("end(-1)", x.end(-1), -1);
        Checks.due("end(881)", x.end(881), 881);
        Checks.due("feed at 881", x.feed(0, 0, 0, 0, 0), -3);
        Checks.due("end(882)", x.end(882), -1);
        Checks.due("end(880)", x.end(880), 880);
        Checks.due("feed at 880", x.feed(0, 0, 0, 0, 0), 900);
        Checks.due("end(0)", x.end(0), 0);
        Checks.due("bytes", x.count(4), 0);
        // all five ints, the highest byte first
        x.feed(0x736c6163, 0x6b202020, 0x20202020, 0x20202020, 0x2020373b);
        Checks.due("job of five ints", x.job(), 1);
        Checks.due("its slack", x.told(3), 7);
        Checks.due("a job empties the tape", x.count(4), 0);
        x.feed(0x80808080, 0, 0, 0, 0);
        Checks.due("job of high bytes", x.job(), -1);
        Checks.due("a refused job empties the tape", x.count(4), 0);
    }

    private static void clauses() {
        FourInks x = new FourInks();
        Checks.put(x, "");
        Checks.due("empty job", x.job(), 0);
        Checks.put(x, " \n \n");
        Checks.due("blank job", x.job(), 0);
        Checks.put(x, "slack9;turns\n4\n;white 0099;over 00;");
        Checks.due("tight job", x.job(), 4);
        Checks.due("clauses", x.count(0), 4);
        Checks.due("slack", x.told(3), 9);
        Checks.due("turns", x.told(4), 4);
        Checks.due("white", x.told(6), 99);
        Checks.due("over", x.told(7), 0);
        Checks.put(x, "lies red blue 0; over 3; nonsense");
        Checks.due("job with a fault", x.job(), -1);
        Checks.due("the JOB stays", x.told(7), 0);
        Checks.due("what lies tells stays", x.told(24), 100);
        Checks.due("clauses stay", x.count(0), 4);
        Checks.due("fault 2", x.fault(2), -1);
        Checks.due("fault -1", x.fault(-1), -1);
        Checks.put(x, "over 3;");
        Checks.due("job without a fault", x.job(), 1);
        Checks.due("kind is gone", x.fault(0), 0);
        Checks.due("place is gone", x.fault(1), -1);
        Checks.due("what isn't told is as ahead of all", x.told(3), 1);
        StringBuilder most = new StringBuilder();
        for (int i = 0; i < 8; i++) {
            most.append("mark 1 1;screen 1 1;box red 0 0 1 1;");
        }
        Checks.put(x, most.toString());
        Checks.due("job of all that has room", x.job(), 24);
    }

    private static void numbersTold() {
        FourInks x = Checks.told("sheet 10 200; mark 0 200; mark 10 0; screw red 1 2 3; box blue 0 0 1 1;"
            + "box black 0 0 1 1; screen 1 30; screen 30 1; screen 2 3; lies blue red 0; lies black yellow 7;");
        Checks.due("width", x.told(0), 10);
        Checks.due("height", x.told(1), 200);
        Checks.due("marks", x.told(2), 2);
        Checks.due("boxes", x.told(5), 2);
        Checks.due("screens", x.told(8), 3);
        int[] screws = {0, 1, 0, 0, -1, -1};
        for (int i = 0; i < screws.length; i++) {
            Checks.due("screws " + i, x.told(10 + i), screws[i]);
        }
        for (int pair = 0; pair < 16; pair++) {
            int due = pair % 5 == 0 ? -1 : pair == 1 ? 0 : pair == 14 ? 7 : 100;
            Checks.due("lies " + pair, x.told(20 + pair), due);
        }
        int[] asked = {40, 41, 42, 50, 51, 52, 60, 61, 62, 63, 70, 71, 72, 73};
        int[] due = {0, 10, -1, 200, 0, -1, 1, 30, 2, -1, 30, 1, 3, -1};
        for (int i = 0; i < asked.length; i++) {
            Checks.due("told " + asked[i], x.told(asked[i]), due[i]);
        }
        int[] none = {-1, 9, 14, 19, 36, 39, 48, 49, 58, 59, 68, 69, 78, 79, 80, 1000,
            Integer.MAX_VALUE, Integer.MIN_VALUE};
        for (int what : none) {
            Checks.due("told " + what, x.told(what), -1);
        }
    }

    private static void screws() {
        FourInks x = Checks.told("screw blue 20 -20 0; screw black -1 -0 2; screw blue 4 5 6; screw blue -7 8 - \n 9;");
        int[][] blue = {{20, -20, 0}, {4, 5, 6}, {-7, 8, -9}};
        for (int k = 0; k < 3; k++) {
            for (int what = 0; what < 3; what++) {
                Checks.due("screw 0 " + k + " " + what, x.screw(0, k, what), blue[k][what]);
            }
        }
        Checks.due("screw of black, across", x.screw(3, 0, 0), -1);
        Checks.due("screw of black, up", x.screw(3, 0, 1), 0);
        int[][] wrong = {{0, 3, 0}, {0, -1, 0}, {3, 1, 0}, {1, 0, 0}, {-1, 0, 0}, {4, 0, 0}, {0, 0, 3}, {0, 0, -1},
            {Integer.MAX_VALUE, 0, 0}, {0, Integer.MIN_VALUE, 0}};
        for (int[] w : wrong) {
            Checks.due("screw " + w[0] + " " + w[1] + " " + w[2], x.screw(w[0], w[1], w[2]), -99);
        }
    }

    private static void syntax() {
        Checks.refused(";", 1, 0);
        Checks.refused("sheet", 1, 5);
        Checks.refused("sheet 10 10", 1, 11);
        Checks.refused("sheet 10 10  \n", 1, 14);
        Checks.refused("sheet 10 10;;", 1, 12);
        Checks.refused("Sheet 10 10;", 1, 0);
        Checks.refused("sheet 10 10; x", 1, 13);
        Checks.refused("slack 00001;", 1, 6);
        Checks.refused("slack 99999;", 1, 6);
        Checks.refused("slacks 1;", 1, 0);
        Checks.refused("slackslac 1;", 1, 0);
        Checks.refused("slac 1;", 1, 0);
        Checks.refused("slack -1;", 1, 6);
        Checks.refused("slack\t1;", 1, 5);
        Checks.refused("slack " + (char) 200 + ";", 1, 6);
        Checks.refused("screw green 1 1 1;", 1, 6);
        Checks.refused("screw reds 1 1 1;", 1, 6);
        Checks.refused("screw red 1 - ;", 1, 14);
        Checks.refused("screw red 1 1;", 1, 13);
        Checks.refused("box 1 1 1 1 1;", 1, 4);
        Checks.refused("lies red blue green 5;", 1, 14);
        Checks.refused("blue;", 1, 0);
        Checks.refused("12;", 1, 0);
        Checks.refused("-", 1, 0);
        Checks.refused("slack 1 slack 10;", 1, 8);
    }

    private static void bounds() {
        Checks.refused("sheet 9 300;", 2, 6);
        Checks.refused("sheet 201 10;", 2, 6);
        Checks.refused("sheet 10 201;", 2, 9);
        Checks.refused("sheet 10 9;", 2, 9);
        Checks.refused("mark 101 1;", 2, 5);
        Checks.refused("sheet 50 60; mark 51 60;", 2, 18);
        Checks.refused("sheet 50 60; mark 50 61;", 2, 21);
        Checks.refused("slack 10;", 2, 6);
        Checks.refused("turns 5;", 2, 6);
        Checks.refused("screw red 21 0 0;", 2, 10);
        Checks.refused("screw red 0 -21 0;", 2, 13);
        Checks.refused("screw red 0 0 - 9999;", 2, 16);
        Checks.refused("box red 16 0 1 1;", 2, 8);
        Checks.refused("box red 0 16 1 1;", 2, 10);
        Checks.refused("box red 0 0 0 1;", 2, 12);
        Checks.refused("box red 0 0 17 1;", 2, 12);
        Checks.refused("box red 0 0 1 0;", 2, 14);
        Checks.refused("box red 0 0 1 17;", 2, 14);
        Checks.refused("white 100;", 2, 6);
        Checks.refused("over 100;", 2, 5);
        Checks.refused("screen 0 1;", 2, 7);
        Checks.refused("screen 31 1;", 2, 7);
        Checks.refused("screen 1 31;", 2, 9);
        Checks.refused("screen 1 0;", 2, 9);
        Checks.refused("lies red blue 101;", 2, 14);
    }

    private static void twice() {
        Checks.refused("sheet 10 10;sheet 9 9;", 3, 12);
        Checks.refused("sheet 10 10;mark 1 1;sheet 9 9;", 3, 21);
        Checks.refused("slack 1;slack", 3, 8);
        Checks.refused("turns 1;slack 1;turns 1;", 3, 16);
        Checks.refused("white 1;white 1;", 3, 8);
        Checks.refused("over 1;over 1;", 3, 7);
        Checks.refused("lies red red 500;", 3, 9);
        Checks.refused("lies red blue 5;lies blue red 5;lies red black 1;lies red blue 5;", 3, 58);
    }

    private static void room() {
        Checks.refused("mark 1 1;".repeat(9), 4, 72);
        Checks.refused("screen 1 1;".repeat(9), 4, 88);
        Checks.refused("box red 0 0 1 1;".repeat(4) + "box blue 0 0 1 1;".repeat(4) + "box 5", 4, 132);
        Checks.refused("screw red 1 1 1;".repeat(3) + "screw blue 1 1 1;".repeat(3) + "screw red x", 4, 105);
        Checks.refused("screw red 1 1 1;".repeat(3) + "screw x", 1, 54);
    }

    private static void late() {
        Checks.refused("mark 1 1;sheet 10 10;", 5, 9);
        Checks.refused("mark 1 1;slack 1; sheet", 5, 18);
    }

    private static void jobForgets() {
        FourInks x = Checks.told("mark 1 1; screw red 1 1 1; box red 1 1 2 2;");
        x.sign();
        x.read(5, 1, 0, 1, 1);
        x.right(6, 0, 1, 1);
        x.mend(1, 1, 1, 1, 1);
        x.best(0, 1, 0);
        Checks.put(x, "10");
        x.tissue(10, 20, 0);
        Checks.put(x, "mark 1 1; screw red 1 1 1; oh");
        Checks.due("a refused job", x.job(), -1);
        Checks.due("readings stay", x.count(1), 1);
        Checks.due("rights stay", x.count(2), 1);
        Checks.due("turned stays", x.turned(0), -1);
        Checks.due("spread stays", x.spread(0), 0);
        Checks.due("layers stay", x.layers(0), 1);
        Checks.due("the latest step stays", x.read(5, 1, 0, 1, 1), -2);
        Checks.put(x, "mark 1 1; screw red 1 1 1;");
        Checks.due("a good job", x.job(), 2);
        Checks.due("readings are gone", x.count(1), 0);
        Checks.due("rights are gone", x.count(2), 0);
        Checks.due("turned is gone", x.turned(0), -99);
        Checks.due("spread is gone", x.spread(0), -99);
        Checks.due("layers are gone", x.layers(0), -1);
        Checks.due("their sum is gone", x.layers(-1), -1);
        Checks.due("the PROOF stays", x.count(3), 1);
        Checks.due("cells against it", x.held(12, 12, 12, 12), 4);
        Checks.due("the latest step is 0", x.read(0, 1, 0, 1, 1), 0);
    }
}
