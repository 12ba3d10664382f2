/** The edges of promises 28 to 32 and of Terms V; each method stands for the words ahead of it. */
public final class ScreenEdgeTest {
    private static final String[] INKS = {"blue", "red", "yellow", "black"};

    public static void main(String[] args) {
        beatAtItsEnds();
        fourTurns();
        settingAtItsEnds();
        fewerThanFour();
        greatestLeastBeat();
        leastRowOfScreens();
        orderAtItsEnds();
        eachOrderMayBeBest();
        leastRowOfInks();
        sumAtItsEnds();
        sumOfThree();
        countAtItsEnds();
        Checks.finish();
    }

    /** beat(): "BEAT of two SCREENS; RANGE." */
    private static void beatAtItsEnds() {
        Checks.beyond("beat of none", 0, -1, -2, k -> new FourInks().beat(k, k));
        FourInks one = Checks.told("screen 7 7;");
        Checks.ends("beat of one alone", 0, 0, 0, 0, -2, k -> one.beat(k, 0));
        FourInks x = Checks.told("screen 1 1; screen 2 1; screen 3 1; screen 4 1; screen 5 1; screen 6 1; screen 7 1; screen 8 1;");
        Checks.ends("beat k", 0, 49, 7, 0, -2, k -> x.beat(k, 7));
        Checks.ends("beat l", 0, 0, 7, 49, -2, l -> x.beat(0, l));
        Checks.due("both wrong", x.beat(8, 8), -2);
    }

    /** "the least, over the four turns of the second (p, q; -q, p; -p, -q; q, -p)": screens of 1 .. 30 each */
    private static void fourTurns() {
        FourInks x = Checks.told("screen 1 1; screen 30 30; screen 1 30; screen 30 1; screen 12 5; screen 5 12; screen 12 5;");
        int[][] due = {{0, 1, 2 * 29 * 29}, {1, 0, 2 * 29 * 29}, {2, 3, 4}, {3, 2, 4}, {0, 2, 841}, {0, 3, 841},
            {4, 5, 98}, {5, 4, 98}, {4, 6, 0}, {2, 2, 0}, {1, 2, 841}, {1, 3, 841}};
        for (int[] one : due) {
            Checks.due("beat " + one[0] + " " + one[1], x.beat(one[0], one[1]), one[2]);
        }
    }

    /** setting(): "what 0: its least BEAT, 1 + i: the SCREEN of INK i; ..; RANGE: what." */
    private static void settingAtItsEnds() {
        FourInks x = Checks.told("screen 1 1; screen 10 10; screen 20 20; screen 30 30;");
        Checks.ends("setting", 0, 9 * 9 * 2, 4, 3, -2, x::setting);
        for (int i = 0; i < 4; i++) {
            Checks.due("screen of ink " + i, x.setting(1 + i), i);
        }
    }

    /** "NONE: there are fewer than four SCREENS" */
    private static void fewerThanFour() {
        for (int screens = 0; screens <= 5; screens++) {
            FourInks x = Checks.told("screen 5 5;".repeat(screens));
            for (int what = 0; what <= 4; what++) {
                int due = screens < 4 ? -1 : what == 0 ? 0 : what - 1;
                Checks.due("setting " + what + " of " + screens, x.setting(what), due);
            }
        }
    }

    private static void set(FourInks x, int beat, int... row) {
        Checks.due("least beat", x.setting(0), beat);
        for (int i = 0; i < 4; i++) {
            Checks.due("screen of ink " + i, x.setting(1 + i), row[i]);
        }
    }

    /** "four unlike SCREENS for the INKS 0 .. 3, with the greatest least BEAT of any two" */
    private static void greatestLeastBeat() {
        String far = "screen 1 1; screen 10 10; screen 20 20; screen 30 30;";
        set(Checks.told("screen 9 9;".repeat(4) + far), 162, 4, 5, 6, 7);
        set(Checks.told(far + "screen 9 9;".repeat(4)), 162, 0, 1, 2, 3);
        set(Checks.told("screen 1 1; screen 9 9; screen 10 10; screen 9 9; screen 20 20; screen 9 9; screen 9 9; screen 30 30;"),
            162, 0, 2, 4, 7);
        set(Checks.told("screen 5 5; screen 5 5; screen 5 5; screen 5 5;"), 0, 0, 1, 2, 3);
        // each of the six pairs may be the least
        for (int pair = 0; pair < 6; pair++) {
            int one = pair < 3 ? 0 : pair < 5 ? 1 : 2;
            int two = pair < 3 ? pair + 1 : pair < 5 ? pair - 1 : 3;
            StringBuilder text = new StringBuilder();
            int next = 0;
            String[] others = {"screen 30 30;", "screen 1 20;"};
            for (int k = 0; k < 4; k++) {
                text.append(k == one ? "screen 5 5;" : k == two ? "screen 6 5;" : others[next++]);
            }
            set(Checks.told(text.toString()), 1, 0, 1, 2, 3);
        }
    }

    /** "then the least row." */
    private static void leastRowOfScreens() {
        set(Checks.told("screen 5 5;".repeat(8)), 0, 0, 1, 2, 3);
        // the second and the third are alike, and so are the fifth and the sixth
        set(Checks.told("screen 1 1; screen 10 10; screen 10 10; screen 20 20; screen 30 30; screen 30 30;"), 162, 0, 1, 3, 4);
    }

    /** order(): "what 0: its sum, 1 + i: the INK that is i-th (from 0); RANGE." */
    private static void orderAtItsEnds() {
        FourInks x = new FourInks();
        Checks.ends("order", 0, 300, 4, 3, -2, x::order);
        Checks.due("order 1", x.order(1), 0);
    }

    /** All pairs but these tell that nothing stays. */
    private static String lies(int... kept) {
        StringBuilder text = new StringBuilder();
        for (int pair = 0; pair < 16; pair++) {
            boolean keeps = false;
            for (int i = 1; i < kept.length; i++) {
                keeps |= pair == kept[i - 1] * 4 + kept[i];
            }
            if (!keeps && pair % 5 != 0) {
                text.append("lies ").append(INKS[pair / 4]).append(" ").append(INKS[pair % 4]).append(" 0;");
            }
        }
        return text.toString();
    }

    /** "BEST ORDER: the greatest sum" */
    private static void eachOrderMayBeBest() {
        int orders = 0;
        for (int order = 0; order <= 3210; order++) {
            int[] inks = {order / 1000, order / 100 % 10, order / 10 % 10, order % 10};
            if (isOrder(inks)) {
                orders++;
                FourInks x = Checks.told(lies(inks));
                Checks.due("greatest sum", x.order(0), 300);
                Checks.due("sum of " + order, x.sum(order), 300);
                for (int i = 0; i < 4; i++) {
                    Checks.due("ink " + i + " of " + order, x.order(1 + i), inks[i]);
                }
            }
        }
        Checks.due("orders", orders, 24);
    }

    private static boolean isOrder(int[] inks) {
        int found = 0;
        for (int ink : inks) {
            found |= ink < 4 ? 1 << ink : 0;
        }
        return found == 15;
    }

    /** "then the least row of INKS." */
    private static void leastRowOfInks() {
        FourInks none = Checks.told(lies());
        Checks.due("a sum of 0", none.order(0), 0);
        for (int i = 0; i < 4; i++) {
            Checks.due("the least of all, ink " + i, none.order(1 + i), i);
        }
        int[][] kept = {{3, 2}, {1, 0}, {2, 0}, {3, 0}};
        int[][] due = {{0, 1, 3, 2}, {1, 0, 2, 3}, {1, 2, 0, 3}, {1, 2, 3, 0}};
        for (int k = 0; k < kept.length; k++) {
            FourInks x = Checks.told(lies(kept[k]));
            Checks.due("a sum of 100", x.order(0), 100);
            for (int i = 0; i < 4; i++) {
                Checks.due("ink " + i + " of like orders", x.order(1 + i), due[k][i]);
            }
        }
    }

    /** sum(): "told by its INKS, one behind the other as figures of four ..; RANGE: they aren't all four." */
    private static void sumAtItsEnds() {
        FourInks x = new FourInks();
        for (int order = -100; order <= 10200; order++) {
            if (order % 400 == 0) {
                x = new FourInks();
            }
            int[] inks = {order / 1000, order / 100 % 10, order / 10 % 10, order % 10};
            Checks.due("sum " + order, x.sum(order), order > 0 && isOrder(inks) ? 300 : -2);
        }
        FourInks last = x;
        Checks.ends("sum", 123, 300, 3210, 300, -2, last::sum);
        int[] wrong = {-123, -3210, 10123, 43210, 32100, 100123, 1_000_000_123};
        for (int order : wrong) {
            Checks.due("sum " + order, last.sum(order), -2);
        }
    }

    /** "the sum of the three numbers.": 0 .. 100 each */
    private static void sumOfThree() {
        FourInks x = Checks.told("lies blue red 1; lies red yellow 20; lies yellow black 0; lies black blue 100; lies red blue 3;");
        Checks.due("blue red yellow black", x.sum(123), 21);
        Checks.due("black blue red yellow", x.sum(3012), 121);
        Checks.due("yellow black blue red", x.sum(2301), 101);
        Checks.due("yellow black red blue", x.sum(2310), 103);
        Checks.due("none of them told", x.sum(1302), 300);
        Checks.due("no less than 0", Checks.told(lies()).sum(3210), 0);
    }

    /** count(): "NONE for others." */
    private static void countAtItsEnds() {
        FourInks x = Checks.told("mark 0 0; over 1; slack 1;");
        Checks.ends("count of a job alone", 0, 3, 4, 0, -1, x::count);
        x.read(0, 0, 0, 0, 0);
        x.read(0, 0, 0, 0, 0);
        x.right(0, 0, 0, 0);
        x.sign();
        x.sign();
        x.feed(0, 0, 0, 0, 0);
        x.feed(0, 0, 0, 0, 0);
        x.end(33);
        int[] due = {3, 2, 1, 1, 33};
        for (int what = 0; what < 5; what++) {
            Checks.due("count " + what, x.count(what), due[what]);
        }
        Checks.beyond("count", 0, 4, -1, x::count);
        FourInks full = Twin.full();
        Checks.due("most readings", full.count(1), 24);
        Checks.due("most puttings right", full.count(2), 20);
    }
}
