/** The edges of promises 8 to 15 and of Terms II; each method stands for the words ahead of it. */
public final class SlipEdgeTest {
    private static final int ALL = 19 * 19 * 19 * 10;

    public static void main(String[] args) {
        shiftAtItsEnds();
        cutTowardsNothing();
        readAtItsEnds();
        readAtMarks();
        neverFalling();
        mostReadings();
        rightAtItsEnds();
        rightAtTheSameStep();
        mostRights();
        knownAtAStep();
        asItIsKnown();
        offBySlack();
        allMustFit();
        fitAtItsEnds();
        noFit();
        sureNumbers();
        sureAtItsEnds();
        mendAtItsEnds();
        turnsAtTheirEnds();
        slipsLeaveTheirBounds();
        badWithoutMarks();
        badOfAnyMark();
        bestTurns();
        turnedAtItsEnds();
        latestMend();
        pulledAtItsEnds();
        Checks.finish();
    }

    // ---- SLIPS

    /** "a across, b up (-9 .. 9 each), r its turn (-9 .. 9), s its stretch (0 .. 9)", "a point (0 .. 200 each)" */
    private static void shiftAtItsEnds() {
        FourInks x = new FourInks();
        Checks.ends("shift a", -9, -9, 9, 9, -9999, a -> x.shift(a, 1, 0, 0, 100, 100, 0));
        Checks.ends("shift b", -9, -9, 9, 9, -9999, b -> x.shift(1, b, 0, 0, 100, 100, 1));
        Checks.ends("shift r across", -9, 18, 9, -18, -9999, r -> x.shift(0, 0, r, 0, 0, 200, 0));
        Checks.ends("shift r up", -9, -18, 9, 18, -9999, r -> x.shift(0, 0, r, 0, 200, 0, 1));
        Checks.ends("shift s across", 0, 0, 9, 18, -9999, s -> x.shift(0, 0, 0, s, 200, 0, 0));
        Checks.ends("shift s up", 0, 0, 9, 18, -9999, s -> x.shift(0, 0, 0, s, 0, 200, 1));
        Checks.ends("shift x across", 0, 0, 200, 18, -9999, at -> x.shift(0, 0, 9, 9, at, 0, 0));
        Checks.ends("shift x up", 0, 0, 200, -18, -9999, at -> x.shift(0, 0, -9, 9, at, 0, 1));
        Checks.ends("shift y across", 0, 0, 200, -18, -9999, at -> x.shift(0, 0, 9, 9, 0, at, 0));
        Checks.ends("shift y up", 0, 0, 200, 18, -9999, at -> x.shift(0, 0, 9, 9, 0, at, 1));
        Checks.ends("shift what", 0, 3, 1, -4, -9999, what -> x.shift(3, -4, 0, 0, 7, 7, what));
        Checks.due("the farthest across", x.shift(9, 0, -9, 9, 200, 200, 0), 45);
        Checks.due("the farthest up", x.shift(0, 9, 9, 9, 200, 200, 1), 45);
        Checks.due("the farthest back", x.shift(-9, 0, 9, 0, 200, 200, 0), -27);
        Checks.due("the farthest down", x.shift(0, -9, -9, 0, 200, 200, 1), -27);
    }

    /** "each cut towards 0" */
    private static void cutTowardsNothing() {
        FourInks x = new FourInks();
        int[] points = {0, 1, 99, 100, 101, 199, 200};
        int[] cut = {0, 0, 0, 1, 1, 1, 2};
        for (int i = 0; i < points.length; i++) {
            int at = points[i];
            Checks.due("stretch across at " + at, x.shift(0, 0, 0, 1, at, 0, 0), cut[i]);
            Checks.due("stretch up at " + at, x.shift(0, 0, 0, 1, 0, at, 1), cut[i]);
            Checks.due("turn across at " + at, x.shift(0, 0, 1, 0, 0, at, 0), -cut[i]);
            Checks.due("turn back across at " + at, x.shift(0, 0, -1, 0, 0, at, 0), cut[i]);
            Checks.due("turn up at " + at, x.shift(0, 0, 1, 0, at, 0, 1), cut[i]);
            Checks.due("turn down at " + at, x.shift(0, 0, -1, 0, at, 0, 1), -cut[i]);
        }
        Checks.due("both are cut at once, across", x.shift(0, 0, 1, 1, 50, 149, 0), 0);
        Checks.due("both are cut at once, up", x.shift(0, 0, 1, 1, 50, 50, 1), 1);
        Checks.due("both less than 1, up", x.shift(0, 0, 1, 1, 50, 49, 1), 0);
        Checks.due("both make -1, across", x.shift(0, 0, 1, 1, 50, 150, 0), -1);
    }

    // ---- READINGS

    /** "shifted so much across and up (-99 .. 99), told at a STEP of telling (0 .. 999, ..)": else RANGE. */
    private static void readAtItsEnds() {
        Checks.ends("read at step", 0, 0, 999, 0, -2, told -> marked().read(told, 0, 0, 0, 0));
        Checks.ends("read of ink", 0, 0, 3, 0, -2, ink -> marked().read(0, ink, 0, 0, 0));
        Checks.ends("read at mark", 0, 0, 1, 0, -2, mark -> marked().read(0, 0, mark, 0, 0));
        Checks.ends("read across", -99, 0, 99, 0, -2, across -> marked().read(0, 0, 0, across, 0));
        Checks.ends("read up", -99, 0, 99, 0, -2, up -> marked().read(0, 0, 0, 0, up));
        int step = Twin.LATEST;
        Twin.refused("read below all steps", Twin::busy, -2, x -> x.read(-1, 0, 0, 0, 0));
        Twin.refused("read at a step that falls", Twin::busy, -2, x -> x.read(step - 1, 0, 0, 0, 0));
        Twin.refused("read above all steps", Twin::busy, -2, x -> x.read(1000, 0, 0, 0, 0));
        Twin.refused("read of ink -1", Twin::busy, -2, x -> x.read(step + 1, -1, 0, 0, 0));
        Twin.refused("read of ink 4", Twin::busy, -2, x -> x.read(step + 1, 4, 0, 0, 0));
        Twin.refused("read at mark -1", Twin::busy, -2, x -> x.read(step + 1, 0, -1, 0, 0));
        Twin.refused("read at mark 3", Twin::busy, -2, x -> x.read(step + 1, 0, 3, 0, 0));
        Twin.refused("read too far across", Twin::busy, -2, x -> x.read(step + 1, 0, 0, 100, 0));
        Twin.refused("read too far back", Twin::busy, -2, x -> x.read(step + 1, 0, 0, -100, 0));
        Twin.refused("read too far up", Twin::busy, -2, x -> x.read(step + 1, 0, 0, 0, 100));
        Twin.refused("read too far down", Twin::busy, -2, x -> x.read(step + 1, 0, 0, 0, -100));
    }

    private static FourInks marked() {
        return Checks.told("mark 0 0; mark 100 0;");
    }

    private static void readAtMarks() {
        Checks.beyond("read without marks", 0, -1, -2, mark -> new FourInks().read(0, 0, mark, 0, 0));
        FourInks x = Checks.told("mark 1 1;".repeat(8));
        Checks.ends("read at one of eight marks", 0, 0, 7, 1, -2, mark -> x.read(0, 0, mark, 0, 0));
    }

    /** "told at a STEP of telling (.., never falling)" */
    private static void neverFalling() {
        FourInks x = marked();
        Checks.due("at 0", x.read(0, 0, 0, 0, 0), 0);
        Checks.due("at 0 again", x.read(0, 0, 0, 0, 0), 1);
        Checks.due("at 7", x.read(7, 0, 0, 0, 0), 2);
        Checks.due("at 6", x.read(6, 0, 0, 0, 0), -2);
        Checks.due("at 7 again", x.read(7, 0, 0, 0, 0), 3);
        Checks.due("put right at 6", x.right(6, 0, 0, 0), -2);
        Checks.due("put right at 8", x.right(8, 0, 0, 0), 1);
        Checks.due("at 7 behind that", x.read(7, 0, 0, 0, 0), -2);
        Checks.due("put right at 7 behind that", x.right(7, 0, 0, 0), -2);
        Checks.due("at 999", x.read(999, 0, 0, 0, 0), 4);
        Checks.due("at 998", x.read(998, 0, 0, 0, 0), -2);
        Checks.due("at 999 again", x.read(999, 0, 0, 0, 0), 5);
        Checks.due("put right at 999", x.right(999, 0, 0, 0), 2);
        Checks.due("at 1000", x.read(1000, 0, 0, 0, 0), -2);
        Checks.due("put right at 1000", x.right(1000, 0, 0, 0), -2);
    }

    /** "READINGS, at most 24, numbered from 0": then FULL. */
    private static void mostReadings() {
        FourInks x = marked();
        for (int k = 0; k < 24; k++) {
            Checks.due("read " + k, x.read(0, k % 4, k % 2, 0, 0), k);
            Checks.due("readings", x.count(1), k + 1);
        }
        Checks.due("read 24", x.read(0, 0, 0, 0, 0), -3);
        Checks.due("readings are 24", x.count(1), 24);
        Checks.due("the last may be put right", x.right(0, 23, 9, 9), 1);
        Checks.due("but none behind it", x.right(0, 24, 9, 9), -2);
        Checks.due("and counts", x.fit(3, 0, 0), 0);
        Twin.refused("read 24", Twin::full, -3, press -> press.read(Twin.LATEST, 0, 0, 9, 9));
        Twin.refused("read 24 at a later step", Twin::full, -3, press -> press.read(999, 0, 0, 9, 9));
    }

    private static FourInks readTwice() {
        FourInks x = marked();
        x.read(3, 0, 0, 0, 0);
        x.read(3, 1, 1, 0, 0);
        return x;
    }

    /** right(): "how often it was; RANGE; FULL." */
    private static void rightAtItsEnds() {
        Checks.ends("right at step", 3, 1, 999, 1, -2, told -> readTwice().right(told, 0, 0, 0));
        Checks.ends("right of one", 0, 1, 1, 1, -2, k -> readTwice().right(3, k, 0, 0));
        Checks.ends("right across", -99, 1, 99, 1, -2, across -> readTwice().right(3, 0, across, 0));
        Checks.ends("right up", -99, 1, 99, 1, -2, up -> readTwice().right(3, 0, 0, up));
        Checks.beyond("right of none", 0, -1, -2, k -> marked().right(0, k, 0, 0));
        int step = Twin.LATEST;
        Twin.refused("right at a step that falls", Twin::busy, -2, x -> x.right(step - 1, 0, 0, 0));
        Twin.refused("right above all steps", Twin::busy, -2, x -> x.right(1000, 0, 0, 0));
        Twin.refused("right of -1", Twin::busy, -2, x -> x.right(step + 1, -1, 0, 0));
        Twin.refused("right of 2", Twin::busy, -2, x -> x.right(step + 1, 2, 0, 0));
        Twin.refused("right too far across", Twin::busy, -2, x -> x.right(step + 1, 0, 100, 0));
        Twin.refused("right too far back", Twin::busy, -2, x -> x.right(step + 1, 0, -100, 0));
        Twin.refused("right too far up", Twin::busy, -2, x -> x.right(step + 1, 0, 0, 100));
        Twin.refused("right too far down", Twin::busy, -2, x -> x.right(step + 1, 0, 0, -100));
    }

    /** "perhaps put RIGHT at a later one, or at the same" */
    private static void rightAtTheSameStep() {
        FourInks x = Checks.told("slack 0; mark 0 0;");
        x.read(4, 0, 0, 1, 2);
        Checks.due("at the same", x.right(4, 0, 3, 4), 1);
        Checks.due("a as it is known then", x.fit(0, 4, 10), 3);
        Checks.due("b as it is known then", x.fit(0, 4, 11), 4);
        Checks.due("not known ahead", x.fit(0, 3, 0), ALL);
        Checks.due("once more at the same", x.right(4, 0, 5, 6), 2);
        Checks.due("the latest of a step counts across", x.fit(0, 4, 20), 5);
        Checks.due("the latest of a step counts up", x.fit(0, 4, 21), 6);
        Checks.due("at a later one", x.right(5, 0, 7, 8), 3);
        Checks.due("as known ahead of it", x.fit(0, 4, 10), 5);
        Checks.due("as known at it, across", x.fit(0, 5, 10), 7);
        Checks.due("as known at it, up", x.fit(0, 5, 11), 8);
    }

    /** "(20 times at most in all)": then FULL. */
    private static void mostRights() {
        FourInks x = readTwice();
        for (int times = 1; times <= 20; times++) {
            Checks.due("right " + times, x.right(3, times % 2, 0, 0), (times + 1) / 2);
            Checks.due("puttings right", x.count(2), times);
        }
        Checks.due("right 21 of the first", x.right(3, 0, 9, 9), -3);
        Checks.due("right 21 of the second", x.right(3, 1, 9, 9), -3);
        Checks.due("puttings right are 20", x.count(2), 20);
        Checks.due("a reading has room still", x.read(3, 0, 0, 0, 0), 2);
        Checks.due("but no putting right", x.right(3, 2, 9, 9), -3);
        FourInks one = readTwice();
        for (int times = 1; times <= 20; times++) {
            Checks.due("right of one, " + times, one.right(3, 1, 0, 0), times);
        }
        Checks.due("right of one, 21", one.right(3, 1, 0, 0), -3);
        Twin.refused("right 21", Twin::full, -3, press -> press.right(Twin.LATEST, 0, 9, 9));
        Twin.refused("right 21 at a later step", Twin::full, -3, press -> press.right(999, 23, 9, 9));
    }

    // ---- FIT

    /** "each READING of that INK that is known then" */
    private static void knownAtAStep() {
        FourInks x = Checks.told("slack 0; mark 0 0;");
        x.read(0, 0, 0, 1, 1);
        x.read(5, 1, 0, 1, 1);
        x.read(999, 2, 0, 1, 1);
        int[] first = {0, 5, 999};
        for (int ink = 0; ink < 3; ink++) {
            Checks.due("known at its step, ink " + ink, x.fit(ink, first[ink], 0), 190);
            Checks.due("known at the last step, ink " + ink, x.fit(ink, 999, 0), 190);
            if (first[ink] > 0) {
                Checks.due("not known ahead, ink " + ink, x.fit(ink, first[ink] - 1, 0), ALL);
                Checks.due("not known at 0, ink " + ink, x.fit(ink, 0, 0), ALL);
            }
        }
        Checks.due("an ink without any", x.fit(3, 999, 0), ALL);
    }

    /** "as it is known": put RIGHT at the STEP or ahead of it. */
    private static void asItIsKnown() {
        FourInks x = Checks.told("slack 0; mark 0 0; mark 100 0; mark 0 100;");
        x.read(1, 0, 0, 1, 2);
        x.read(1, 0, 1, 2, 2);
        x.read(1, 1, 2, 3, 3);
        x.right(4, 1, 3, 3);
        x.right(6, 0, 2, 3);
        int[] steps = {1, 3, 4, 5, 6, 999};
        int[] a = {1, 1, 1, 1, 2, 2};
        int[] s = {1, 1, 2, 2, 1, 1};
        int[] b = {2, 2, 2, 2, 3, 3};
        int[] r = {0, 0, 1, 1, 0, 0};
        for (int i = 0; i < steps.length; i++) {
            Checks.due("one slip at " + steps[i], x.fit(0, steps[i], 0), 1);
            Checks.due("a at " + steps[i], x.fit(0, steps[i], 10), a[i]);
            Checks.due("b at " + steps[i], x.fit(0, steps[i], 21), b[i]);
            Checks.due("r at " + steps[i], x.fit(0, steps[i], 12), r[i]);
            Checks.due("s at " + steps[i], x.fit(0, steps[i], 23), s[i]);
        }
        // at 0, 100 of a and r together, of b and s together, each as many as there may be
        Checks.due("another ink's stays", x.fit(1, 999, 0), 16 * 10);
    }

    /** "is off by slack at most, across and up": at the ends of what a and b may be one alone is left. */
    private static void offBySlack() {
        for (int slack = 0; slack <= 9; slack++) {
            String job = "slack " + slack + "; mark 0 0;";
            int[][] signs = {{1, 0}, {-1, 0}, {0, 1}, {0, -1}};
            for (int[] sign : signs) {
                int across = sign[0] * (9 + slack);
                int up = sign[1] * (9 + slack);
                int free = Math.min(19, 2 * slack + 1) * 190;
                Checks.due("off by slack " + slack, seenOnce(job, across, up).fit(0, 0, 0), free);
                FourInks more = seenOnce(job, across + sign[0], up + sign[1]);
                Checks.due("off by one more than slack " + slack, more.fit(0, 0, 0), 0);
            }
            Checks.due("as many as slack " + slack + " leaves", seenOnce(job, 0, 0).fit(0, 0, 0),
                (2 * slack + 1) * (2 * slack + 1) * 190);
        }
        Checks.due("without a slack told it is 1", seenOnce("mark 0 0;", 0, 0).fit(0, 0, 0), 9 * 190);
        Checks.due("the farthest reading fits none", seenOnce("slack 9; mark 0 0;", 99, -99).fit(0, 0, 0), 0);
    }

    private static FourInks seenOnce(String job, int across, int up) {
        FourInks x = Checks.told(job);
        x.read(0, 0, 0, across, up);
        return x;
    }

    /** All READINGS count, also the 24th, and several at one MARK. */
    private static void allMustFit() {
        FourInks x = Checks.told("slack 9; mark 0 0;");
        for (int k = 0; k < 23; k++) {
            x.read(0, 0, 0, 0, 0);
        }
        Checks.due("23 alike", x.fit(0, 0, 0), ALL);
        x.read(1, 0, 0, 18, 0);
        Checks.due("the 24th leaves one a", x.fit(0, 1, 10), 9);
        Checks.due("as many", x.fit(0, 1, 0), 19 * 190);
        FourInks two = Checks.told("slack 1; mark 0 0;");
        two.read(0, 0, 0, 0, 0);
        two.read(0, 0, 0, 2, 2);
        Checks.due("two that meet", two.fit(0, 0, 0), 190);
        two.read(0, 0, 0, 3, 2);
        Checks.due("three that don't", two.fit(0, 0, 0), 0);
    }

    /** fit(): "what 0: how many; 10 + i: .. (0 a, 1 b, 2 r, 3 s) .., 20 + i: ..; RANGE (-99): no such INK, STEP, what" */
    private static void fitAtItsEnds() {
        FourInks x = Checks.told("slack 1; mark 0 0;");
        x.read(0, 0, 0, 4, -5);
        for (int what = -31; what <= 60; what++) {
            int due = -99;
            int[] least = {3, -6, -9, 0};
            int[] greatest = {5, -4, 9, 9};
            if (what == 0) {
                due = 9 * 190;
            } else if (what >= 10 && what <= 13) {
                due = least[what - 10];
            } else if (what >= 20 && what <= 23) {
                due = greatest[what - 20];
            }
            Checks.due("fit what " + what, x.fit(0, 0, what), due);
        }
        Checks.beyond("fit what", 0, 23, -99, what -> x.fit(0, 0, what));
        Checks.ends("fit of ink", 0, 9 * 190, 3, ALL, -99, ink -> x.fit(ink, 0, 0));
        Checks.ends("fit at step", 0, 9 * 190, 999, 9 * 190, -99, known -> x.fit(0, known, 0));
        Checks.ends("least at step", 0, 3, 999, 3, -99, known -> x.fit(0, known, 10));
    }

    /** "RANGE (-99): .. and 10 .. if there are none." */
    private static void noFit() {
        FourInks x = seenOnce("slack 0; mark 0 0;", 10, 0);
        Checks.due("how many", x.fit(0, 0, 0), 0);
        for (int i = 0; i < 4; i++) {
            Checks.due("no least", x.fit(0, 0, 10 + i), -99);
            Checks.due("no greatest", x.fit(0, 0, 20 + i), -99);
        }
        Checks.due("no FIT", x.sure(0, 0), -1);
        Checks.due("of another ink all", x.sure(1, 0), 0);
    }

    /** "SURE is one of the four numbers that is the same in all FIT": each alone, none, all. */
    private static void sureNumbers() {
        Checks.due("a alone", seenOnce("mark 0 0;", 10, 0).sure(0, 0), 1);
        Checks.due("a alone at its other end", seenOnce("mark 0 0;", -10, 0).sure(0, 0), 1);
        Checks.due("b alone", seenOnce("mark 0 0;", 0, 10).sure(0, 0), 2);
        Checks.due("a and b", seenOnce("mark 0 0;", -10, -10).sure(0, 0), 3);
        Checks.due("r alone", seenFar(-19, 1).sure(0, 0), 4);
        Checks.due("r alone is 9", seenFar(-19, 1).fit(0, 0, 12), 9);
        Checks.due("r alone at its other end", seenFar(19, 1).fit(0, 0, 22), -9);
        Checks.due("s alone", seenFar(0, 19).sure(0, 0), 8);
        Checks.due("s alone is 9", seenFar(0, 19).fit(0, 0, 13), 9);
        Checks.due("s alone at its other end", seenFar(0, -1).sure(0, 0), 8);
        Checks.due("s alone is 0", seenFar(0, -1).fit(0, 0, 23), 0);
        Checks.due("none", new FourInks().sure(0, 0), 0);
        FourInks one = seenOnce("sheet 200 200; slack 0; mark 200 0;", 27, 27);
        Checks.due("one slip alone", one.fit(0, 0, 0), 1);
        Checks.due("all of it are sure", one.sure(0, 0), 15);
    }

    /** At 0, 0 nothing, at 0, 200 shifted so: with slack 1, where nothing is told of it. */
    private static FourInks seenFar(int across, int up) {
        FourInks x = Checks.told("sheet 200 200; mark 0 0; mark 0 200;");
        x.read(0, 0, 0, 0, 0);
        x.read(0, 0, 1, across, up);
        return x;
    }

    /** sure(): "NONE: there is no FIT; RANGE." */
    private static void sureAtItsEnds() {
        FourInks x = seenOnce("mark 0 0;", 10, 0);
        Checks.ends("sure of ink", 0, 1, 3, 0, -2, ink -> x.sure(ink, 0));
        Checks.ends("sure at step", 0, 1, 999, 1, -2, known -> x.sure(0, known));
    }

    // ---- MENDING

    private static void mendAtItsEnds() {
        FourInks x = Checks.told("mark 0 0; mark 100 100;");
        Checks.ends("mend of ink", 0, 3, 3, 3, -2, ink -> x.mend(ink, 3, 0, 0, 0));
        Checks.ends("mend a", -9, 9, 9, 9, -2, a -> x.mend(0, a, 0, 0, 0));
        Checks.ends("mend b", -9, 9, 9, 9, -2, b -> x.mend(0, 0, b, 0, 0));
        Checks.ends("mend r", -9, 9, 9, 9, -2, r -> x.mend(0, 0, 0, r, 0));
        Checks.ends("mend s", 0, 0, 9, 9, -2, s -> x.mend(0, 0, 0, 0, s));
        int[][] wrong = {{-1, 0, 0, 0, 0}, {4, 0, 0, 0, 0}, {1, -10, 0, 0, 0}, {1, 10, 0, 0, 0}, {1, 0, -10, 0, 0},
            {1, 0, 10, 0, 0}, {1, 0, 0, -10, 0}, {1, 0, 0, 10, 0}, {1, 0, 0, 0, -1}, {1, 0, 0, 0, 10}};
        for (int[] w : wrong) {
            String call = "mend " + w[0] + " " + w[1] + " " + w[2] + " " + w[3] + " " + w[4];
            Twin.refused(call, Twin::busy, -2, press -> press.mend(w[0], w[1], w[2], w[3], w[4]));
        }
    }

    /** "each of its SCREWS is turned -turns .. turns times": across 27, which the SCREWS lessen by one at a turn. */
    private static void turnsAtTheirEnds() {
        for (int turns = 0; turns <= 4; turns++) {
            for (int screws = 0; screws <= 3; screws++) {
                for (int sign = -1; sign <= 1; sign += 2) {
                    FourInks x = Checks.told("sheet 200 200; mark 200 0; turns " + turns + ";"
                        + ("screw black " + sign + " 0 0;").repeat(screws));
                    String call = screws + " screws by " + turns;
                    Checks.due(call, x.mend(3, 9, 0, 0, 9), 27 - turns * screws);
                    for (int k = 0; k < 3; k++) {
                        Checks.due("turned " + k + " of " + call, x.turned(k), k < screws ? -sign * turns : -99);
                    }
                }
            }
        }
        FourInks untold = Checks.told("mark 0 0; screw red 1 0 0;");
        Checks.due("without turns told they are 2", untold.mend(1, 9, 0, 0, 0), 7);
    }

    /** "(these may leave their bounds)" */
    private static void slipsLeaveTheirBounds() {
        FourInks a = Checks.told("sheet 200 200; mark 200 0; turns 1; screw red -20 0 0;");
        Checks.due("a comes to -11", a.mend(1, 9, 0, 0, 9), 7);
        Checks.due("by one turn", a.turned(0), 1);
        FourInks b = Checks.told("sheet 200 200; mark 0 200; turns 1; screw red 0 -20 0;");
        Checks.due("b comes to -11", b.mend(1, 0, 9, 0, 9), 7);
        Checks.due("by one turn up", b.turned(0), 1);
        FourInks r = Checks.told("mark 50 0; turns 4; screw red 0 0 15;");
        Checks.due("r comes to 24", r.mend(1, 0, -9, 9, 0), 3);
        Checks.due("by one turn of the turn", r.turned(0), 1);
        FourInks far = Checks.told("mark 10 0; turns 4; screw red 0 0 20;");
        Checks.due("r comes to 89", far.mend(1, 0, -9, 9, 0), 1);
        Checks.due("by four turns", far.turned(0), 4);
        FourInks back = Checks.told("mark 10 0; turns 4; screw red 0 0 -20; screw red 0 0 0;");
        Checks.due("r comes to 89 by turning back", back.mend(1, 0, -9, 9, 0), 1);
        Checks.due("by four turns back", back.turned(0), -4);
        FourInks most = Checks.told("sheet 200 200; mark 10 0; turns 4;" + "screw red 0 0 20;".repeat(3));
        Checks.due("r comes to 91 by three of them", most.mend(1, 0, -9, -9, 0), 0);
        turned(most, 0, 1, 4);
    }

    /** "BAD: .. (0 without MARKS)" */
    private static void badWithoutMarks() {
        FourInks x = Checks.told("turns 4; screw red 1 1 1; screw red 2 2 2;");
        Checks.due("bad", x.mend(1, -9, -9, -9, 9), 0);
        Checks.due("no turn", x.turned(0), 0);
        Checks.due("no turn of the second", x.turned(1), 0);
        Checks.due("without screws either", x.mend(0, 9, 9, 9, 9), 0);
    }

    /** "the greatest shift, across or up, without its sign, at any MARK" */
    private static void badOfAnyMark() {
        String job = "sheet 200 200; mark 0 0;" + "mark 100 100;".repeat(6) + "mark 200 200;";
        FourInks x = Checks.told(job);
        Checks.due("the last mark, across", x.mend(0, 0, 0, -1, 1), 4);
        Checks.due("the last mark, up", x.mend(0, 0, 0, 1, 1), 4);
        Checks.due("the first mark", x.mend(0, -9, 0, 0, 4), 9);
        Checks.due("the first mark, down", x.mend(0, 0, -9, 0, 4), 9);
        Checks.due("no shift at any", x.mend(0, 0, 0, 0, 0), 0);
        Checks.due("back at the last mark", x.mend(0, -9, 0, 9, 0), 27);
        Checks.due("down at the last mark", x.mend(0, 0, -9, -9, 0), 27);
    }

    /** "Best is the least BAD; then the least sum of turns without their signs; then the least row of turns, by SCREWS." */
    private static void bestTurns() {
        FourInks sum = Checks.told("mark 0 0; turns 4; screw red 1 0 0; screw red 2 0 0; screw red 4 0 0;");
        Checks.due("least bad", sum.mend(1, 8, 0, 0, 0), 0);
        turned(sum, 0, 0, -2);
        Checks.due("a sum of three", sum.mend(1, 7, 0, 0, 0), 0);
        turned(sum, -1, -1, -1);
        Checks.due("a sum of two", sum.mend(1, -6, 0, 0, 0), 0);
        turned(sum, 0, 1, 1);
        FourInks row = Checks.told("mark 0 0; turns 4;" + "screw red 1 0 0;".repeat(3));
        Checks.due("of like sums", row.mend(1, 5, 0, 0, 0), 0);
        turned(row, -4, -1, 0);
        Checks.due("of like sums, the other way", row.mend(1, -5, 0, 0, 0), 0);
        turned(row, 0, 1, 4);
        FourInks both = Checks.told("mark 0 0; turns 1; screw red 1 0 0; screw red -1 0 0;");
        Checks.due("of two signs", both.mend(1, 1, 0, 0, 0), 0);
        turned(both, -1, 0);
        FourInks idle = Checks.told("mark 0 0; turns 4; screw red 0 0 0; screw red 0 0 0;");
        Checks.due("no turn mends", idle.mend(1, 9, 9, 9, 9), 9);
        turned(idle, 0, 0);
    }

    private static void turned(FourInks x, int... row) {
        for (int k = 0; k < row.length; k++) {
            Checks.due("turned " + k, x.turned(k), row[k]);
        }
        Checks.due("turned " + row.length, x.turned(row.length), -99);
    }

    /** turned(): "-99: none such." */
    private static void turnedAtItsEnds() {
        FourInks x = Checks.told("mark 0 0; turns 4; screw red 1 0 0; screw red 0 1 0; screw red 0 0 0;");
        Checks.beyond("turned ahead of mend", 0, -1, -99, x::turned);
        x.mend(1, 3, 2, 0, 0);
        Checks.ends("turned", 0, -3, 2, 0, -99, x::turned);
        Checks.due("turned 1", x.turned(1), -2);
    }

    /** "by the latest mend() that told a number" */
    private static void latestMend() {
        FourInks x = Checks.told("mark 0 0; turns 4; screw red 1 0 0; screw red 0 1 0; screw blue 1 0 0;");
        x.mend(1, 3, 2, 0, 0);
        Checks.due("a refused one", x.mend(1, 10, 0, 0, 0), -2);
        turned(x, -3, -2);
        x.mend(0, 4, 0, 0, 0);
        turned(x, -4);
        x.mend(2, 4, 0, 0, 0);
        turned(x);
        x.mend(1, -4, 1, 0, 0);
        turned(x, 4, -1);
    }

    /** pulled(): "at x (0 .. 200) between the first plate and the k-th behind it (1 .. 3); RANGE.": "k times x over 100, cut" */
    private static void pulledAtItsEnds() {
        FourInks x = new FourInks();
        Checks.ends("pulled at the k-th", 1, 2, 3, 6, -2, k -> x.pulled(k, 200));
        Checks.ends("pulled at x", 0, 0, 200, 2, -2, at -> x.pulled(1, at));
        Checks.ends("pulled at x by 3", 0, 0, 200, 6, -2, at -> x.pulled(3, at));
        int[][] due = {{1, 99, 0}, {1, 100, 1}, {1, 199, 1}, {2, 49, 0}, {2, 50, 1}, {2, 99, 1}, {2, 200, 4}, {3, 33, 0},
            {3, 34, 1}, {3, 66, 1}, {3, 67, 2}, {3, 199, 5}};
        for (int[] one : due) {
            Checks.due("pulled " + one[0] + " " + one[1], x.pulled(one[0], one[1]), one[2]);
        }
    }
}
