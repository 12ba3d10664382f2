/** Promises 8 to 15: SLIPS, READINGS, MENDING. */
public final class SlipTest {
    public static void main(String[] args) {
        shifts();
        readings();
        rights();
        fits();
        sureNumbers();
        mending();
        pulling();
        Checks.finish();
    }

    private static void shifts() {
        FourInks x = new FourInks();
        Checks.due("across is cut towards 0", x.shift(0, 0, 1, 0, 0, 199, 0), -1);
        Checks.due("up is cut towards 0", x.shift(0, 0, -1, 0, 199, 0, 1), -1);
        Checks.due("the part over 100 is cut by itself", x.shift(3, 0, 1, 0, 0, 199, 0), 2);
        Checks.due("likewise up", x.shift(0, -3, 1, 0, 199, 0, 1), -2);
        Checks.due("all at once, across", x.shift(-9, 9, -9, 9, 200, 200, 0), 27);
        Checks.due("all at once, up", x.shift(-9, 9, -9, 9, 200, 200, 1), 9);
        Checks.due("both, across", x.shift(1, 2, 3, 4, 50, 70, 0), 1);
        Checks.due("both, up", x.shift(1, 2, 3, 4, 50, 70, 1), 6);
        int[][] wrong = {{10, 0, 0, 0, 0, 0, 0}, {-10, 0, 0, 0, 0, 0, 0}, {0, 10, 0, 0, 0, 0, 0}, {0, -10, 0, 0, 0, 0, 0},
            {0, 0, 10, 0, 0, 0, 0}, {0, 0, -10, 0, 0, 0, 0}, {0, 0, 0, 10, 0, 0, 0}, {0, 0, 0, -1, 0, 0, 0},
            {0, 0, 0, 0, 201, 0, 0}, {0, 0, 0, 0, -1, 0, 0}, {0, 0, 0, 0, 0, 201, 0}, {0, 0, 0, 0, 0, -1, 0},
            {0, 0, 0, 0, 0, 0, 2}, {0, 0, 0, 0, 0, 0, -1}};
        for (int i = 0; i < wrong.length; i++) {
            int[] w = wrong[i];
            Checks.due("wrong shift " + i, x.shift(w[0], w[1], w[2], w[3], w[4], w[5], w[6]), -9999);
        }
    }

    private static void readings() {
        FourInks x = Checks.told("mark 0 0; mark 100 100;");
        int[][] wrong = {{-1, 0, 0, 0, 0}, {1000, 0, 0, 0, 0}, {0, -1, 0, 0, 0}, {0, 4, 0, 0, 0}, {0, 0, -1, 0, 0},
            {0, 0, 2, 0, 0}, {0, 0, 0, 100, 0}, {0, 0, 0, -100, 0}, {0, 0, 0, 0, 100}, {0, 0, 0, 0, -100}};
        for (int i = 0; i < wrong.length; i++) {
            int[] w = wrong[i];
            Checks.due("wrong read " + i, x.read(w[0], w[1], w[2], w[3], w[4]), -2);
        }
        Checks.due("first", x.read(5, 3, 1, 99, -99), 0);
        Checks.due("at the same step", x.read(5, 0, 0, -99, 99), 1);
        Checks.due("a step that falls", x.read(4, 0, 0, 0, 0), -2);
        Checks.due("a refused step doesn't count", x.read(1000, 0, 0, 0, 0), -2);
        for (int k = 2; k < 24; k++) {
            Checks.due("read " + k, x.read(6, 0, 0, 0, 0), k);
        }
        Checks.due("no room", x.read(999, 0, 0, 0, 0), -3);
        Checks.due("a wrong one ahead of no room", x.read(7, 0, 2, 0, 0), -2);
        Checks.due("what had no room isn't the latest step", x.right(6, 0, 0, 0), 1);
        Checks.due("count", x.count(1), 24);
    }

    private static void rights() {
        FourInks x = Checks.told("mark 0 0;");
        Checks.due("none to put right", x.right(0, 0, 0, 0), -2);
        x.read(3, 0, 0, 0, 0);
        x.read(3, 1, 0, 0, 0);
        int[][] wrong = {{2, 0, 0, 0}, {1000, 0, 0, 0}, {3, 2, 0, 0}, {3, -1, 0, 0}, {3, 0, 100, 0}, {3, 0, -100, 0},
            {3, 0, 0, 100}, {3, 0, 0, -100}};
        for (int i = 0; i < wrong.length; i++) {
            int[] w = wrong[i];
            Checks.due("wrong right " + i, x.right(w[0], w[1], w[2], w[3]), -2);
        }
        Checks.due("no puttings right", x.count(2), 0);
        Checks.due("at the same step", x.right(3, 1, 5, 5), 1);
        Checks.due("of another", x.right(4, 0, 5, 5), 1);
        Checks.due("a reading at a step that falls", x.read(3, 0, 0, 0, 0), -2);
        for (int times = 2; times <= 19; times++) {
            Checks.due("again", x.right(4, 1, times, 5), times);
        }
        Checks.due("puttings right", x.count(2), 20);
        Checks.due("no room", x.right(4, 0, 0, 0), -3);
        Checks.due("a wrong one ahead of no room", x.right(4, 2, 0, 0), -2);
    }

    private static void fits() {
        FourInks x = Checks.told("slack 1; mark 0 0; mark 100 0; mark 0 100;");
        Checks.due("all", x.fit(2, 0, 0), 19 * 19 * 19 * 10);
        Checks.due("all at the last step", x.fit(2, 999, 0), 68590);
        int[] least = {-9, -9, -9, 0};
        for (int i = 0; i < 4; i++) {
            Checks.due("least " + i, x.fit(2, 0, 10 + i), least[i]);
            Checks.due("greatest " + i, x.fit(2, 0, 20 + i), 9);
        }
        int[] wrong = {-1, 1, 9, 14, 19, 24, 30, 33, -10, Integer.MIN_VALUE, Integer.MAX_VALUE};
        for (int what : wrong) {
            Checks.due("fit what " + what, x.fit(2, 0, what), -99);
        }
        Checks.due("ink -1", x.fit(-1, 0, 0), -99);
        Checks.due("ink 4", x.fit(4, 0, 0), -99);
        Checks.due("step -1", x.fit(0, -1, 0), -99);
        Checks.due("step 1000", x.fit(0, 1000, 0), -99);
        x.read(10, 2, 0, 4, -8);
        Checks.due("not known yet", x.fit(2, 9, 0), 68590);
        Checks.due("known", x.fit(2, 10, 0), 3 * 3 * 190);
        Checks.due("a from", x.fit(2, 10, 10), 3);
        Checks.due("a to", x.fit(2, 10, 20), 5);
        Checks.due("b from", x.fit(2, 10, 11), -9);
        Checks.due("b to", x.fit(2, 10, 21), -7);
        Checks.due("another ink", x.fit(1, 10, 0), 68590);
        x.right(20, 0, 11, 0);
        Checks.due("as it was known", x.fit(2, 19, 0), 3 * 3 * 190);
        Checks.due("put right beyond the bounds", x.fit(2, 20, 0), 0);
        Checks.due("no least without any", x.fit(2, 20, 10), -99);
        Checks.due("no greatest without any", x.fit(2, 20, 23), -99);
        x.right(20, 0, 10, 0);
        Checks.due("the last of one step counts", x.fit(2, 20, 0), 3 * 190);
        x.right(30, 0, 0, 0);
        x.read(31, 2, 1, 9, 9);
        Checks.due("a and s", x.fit(2, 31, 13), 7);
        Checks.due("b and r", x.fit(2, 31, 12), 7);
        Checks.due("how many", x.fit(2, 31, 0), 36);
    }

    private static void sureNumbers() {
        FourInks x = Checks.told("slack 0; mark 0 0; mark 100 0; mark 0 100; mark 50 0;");
        Checks.due("nothing is sure", x.sure(0, 0), 0);
        x.read(0, 0, 0, 1, 2);
        Checks.due("a, b", x.sure(0, 0), 3);
        x.read(1, 0, 3, 2, 2);
        Checks.due("s 2 or 3, r about 0", x.fit(0, 1, 0), 6);
        Checks.due("a, b alone", x.sure(0, 1), 3);
        x.read(2, 0, 1, 4, 2);
        Checks.due("all", x.sure(0, 2), 15);
        x.read(3, 0, 2, 4, 2);
        Checks.due("no FIT", x.sure(0, 3), -1);
        Checks.due("as known ahead", x.sure(0, 2), 15);
        x.read(4, 1, 1, 18, 18);
        Checks.due("the greatest of all are sure", x.sure(1, 4), 15);
        Checks.due("ink -1", x.sure(-1, 0), -2);
        Checks.due("ink 4", x.sure(4, 0), -2);
        Checks.due("step -1", x.sure(0, -1), -2);
        Checks.due("step 1000", x.sure(0, 1000), -2);
    }

    private static void mending() {
        FourInks x = Checks.told("mark 0 0; mark 100 0;"
            + "turns 4; screw blue 3 0 0; screw blue 2 0 0; screw red 1 0 0; screw red 1 0 0;");
        Checks.due("exact", x.mend(0, 9, 0, 0, 0), 0);
        Checks.due("the least sum of turns", x.turned(0), -3);
        Checks.due("of the other", x.turned(1), 0);
        Checks.due("no third", x.turned(2), -99);
        Checks.due("no screw -1", x.turned(-1), -99);
        Checks.due("two ways", x.mend(1, 5, 1, 0, 0), 1);
        Checks.due("least row", x.turned(0), -4);
        Checks.due("least row behind", x.turned(1), 0);
        Checks.due("no screws", x.mend(2, -9, 0, 0, 0), 9);
        Checks.due("none is turned", x.turned(0), -99);
        x.mend(1, 5, 0, 0, 0);
        int[][] wrong = {{-1, 0, 0, 0, 0}, {4, 0, 0, 0, 0}, {0, 10, 0, 0, 0}, {0, -10, 0, 0, 0}, {0, 0, 10, 0, 0},
            {0, 0, -10, 0, 0}, {0, 0, 0, 10, 0}, {0, 0, 0, -10, 0}, {0, 0, 0, 0, 10}, {0, 0, 0, 0, -1}};
        for (int i = 0; i < wrong.length; i++) {
            int[] w = wrong[i];
            Checks.due("wrong mend " + i, x.mend(w[0], w[1], w[2], w[3], w[4]), -2);
        }
        Checks.due("a wrong one changes nothing", x.turned(0), -4);
        FourInks bare = Checks.told("screw red 1 1 1; screw red 2 2 2; turns 3;");
        Checks.due("no marks", bare.mend(1, 9, 9, 9, 9), 0);
        Checks.due("no turns are needed", bare.turned(1), 0);
        FourInks wide = Checks.told("mark 100 0; mark 0 100;");
        Checks.due("the stretch takes back", wide.mend(0, -5, 0, 0, 9), 9);
        Checks.due("across and its turn", wide.mend(0, 4, -2, -3, 0), 7);
        Checks.due("up and its turn", wide.mend(0, 0, 4, 5, 0), 9);
        FourInks steep = Checks.told("mark 50 0; turns 4; screw black 0 0 -2;");
        Checks.due("the turn leaves its bounds", steep.mend(3, 0, 9, -8, 0), 1);
        Checks.due("by turns", steep.turned(0), 4);
        FourInks still = Checks.told("mark 0 0; turns 0; screw red 1 0 0;");
        Checks.due("no turns allowed", still.mend(1, 5, 0, 0, 0), 5);
        Checks.due("it stays", still.turned(0), 0);
    }

    private static void pulling() {
        FourInks x = new FourInks();
        Checks.due("cut", x.pulled(1, 199), 1);
        Checks.due("cut behind times", x.pulled(3, 199), 5);
        Checks.due("nothing", x.pulled(3, 33), 0);
        Checks.due("farthest", x.pulled(3, 200), 6);
        Checks.due("k 0", x.pulled(0, 100), -2);
        Checks.due("k 4", x.pulled(4, 100), -2);
        Checks.due("x -1", x.pulled(1, -1), -2);
        Checks.due("x 201", x.pulled(1, 201), -2);
    }
}
