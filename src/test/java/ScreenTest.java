/** Promises 28 to 32: SCREENS, ORDERS, counts. */
public final class ScreenTest {
    public static void main(String[] args) {
        beats();
        settings();
        orders();
        sums();
        counts();
        Checks.finish();
    }

    private static void beats() {
        FourInks x = Checks.told("screen 3 4; screen 4 3; screen 1 30; screen 30 1;");
        Checks.due("upright", x.beat(0, 1), 2);
        Checks.due("the other way", x.beat(1, 0), 2);
        Checks.due("a turned one", x.beat(2, 3), 4);
        Checks.due("far ones", x.beat(0, 2), 4 + 26 * 26);
        Checks.due("itself", x.beat(3, 3), 0);
        Checks.due("k -1", x.beat(-1, 0), -2);
        Checks.due("k 4", x.beat(4, 0), -2);
        Checks.due("l -1", x.beat(0, -1), -2);
        Checks.due("l 4", x.beat(0, 4), -2);
    }

    private static void settings() {
        FourInks few = Checks.told("screen 1 1; screen 9 9; screen 20 1;");
        Checks.due("three alone", few.setting(0), -1);
        Checks.due("three alone, ink 3", few.setting(4), -1);
        FourInks x = Checks.told("screen 1 1; screen 1 2; screen 10 10; screen 20 1; screen 20 20; screen 30 30;");
        Checks.due("least beat", x.setting(0), 200);
        int[] row = {0, 3, 4, 5};
        for (int i = 0; i < 4; i++) {
            Checks.due("screen of ink " + i, x.setting(1 + i), row[i]);
        }
        FourInks poor = Checks.told("screen 25 25; screen 1 1; screen 20 1; screen 20 20; screen 30 30;");
        Checks.due("without the first", poor.setting(0), 200);
        for (int i = 0; i < 4; i++) {
            Checks.due("all but the first, ink " + i, poor.setting(1 + i), 1 + i);
        }
        Checks.due("what 5", x.setting(5), -2);
        Checks.due("what -1", x.setting(-1), -2);
        FourInks like = Checks.told("screen 5 5;".repeat(8));
        Checks.due("like screens", like.setting(0), 0);
        Checks.due("the least row", like.setting(4), 3);
    }

    private static void orders() {
        FourInks x = Checks.told("lies blue red 10; lies red yellow 10; lies yellow black 10; lies blue yellow 0;"
            + "lies blue black 0; lies red black 0; lies red blue 90; lies black blue 95; lies yellow blue 99;"
            + "lies yellow red 98; lies black red 97; lies black yellow 50;");
        // the best is found by all 24 here
        int greatest = -1;
        int best = -1;
        for (int order = 0; order <= 3210; order++) {
            int sum = x.sum(order);
            if (sum > greatest) {
                greatest = sum;
                best = order;
            }
        }
        Checks.due("greatest sum", x.order(0), greatest);
        Checks.due("its inks", 1000 * x.order(1) + 100 * x.order(2) + 10 * x.order(3) + x.order(4), best);
        Checks.due("what 5", x.order(5), -2);
        Checks.due("what -1", x.order(-1), -2);
        FourInks all = new FourInks();
        for (int i = 0; i < 4; i++) {
            Checks.due("the least row", all.order(1 + i), i);
        }
    }

    private static void sums() {
        FourInks x = Checks.told("lies blue red 1; lies red yellow 20; lies yellow black 50; lies black yellow 7;"
            + "lies yellow red 0; lies red blue 0;");
        Checks.due("123", x.sum(123), 71);
        Checks.due("3210", x.sum(3210), 7);
        Checks.due("2301", x.sum(2301), 50 + 100 + 1);
        int[] wrong = {-1, 0, 12, 1123, 122, 120, 124, 4123, 10123, 3211, 9999, 10000, -123,
            Integer.MAX_VALUE, Integer.MIN_VALUE};
        for (int order : wrong) {
            Checks.due("sum " + order, x.sum(order), -2);
        }
    }

    private static void counts() {
        FourInks x = Checks.told("mark 1 1; slack 1;");
        x.read(0, 0, 0, 1, 1);
        x.read(0, 0, 0, 1, 1);
        x.right(0, 1, 2, 2);
        x.feed(0, 0, 0, 0, 0);
        Checks.due("clauses", x.count(0), 2);
        Checks.due("readings", x.count(1), 2);
        Checks.due("rights", x.count(2), 1);
        Checks.due("no PROOF", x.count(3), 0);
        x.sign();
        Checks.due("a PROOF", x.count(3), 1);
        Checks.due("bytes", x.count(4), 20);
        Checks.due("what 5", x.count(5), -1);
        Checks.due("what -1", x.count(-1), -1);
    }
}
