/** Promises 16 to 22: SHAPES, what is SEEN, and the PROOF. */
public final class ShapeTest {
    public static void main(String[] args) {
        rows();
        spreadAtTheEdge();
        seenCells();
        worstWithin();
        bestSpreads();
        proof();
        Checks.finish();
    }

    private static void rows() {
        FourInks x = Checks.told("box red 14 14 16 16; box red 0 0 1 1; box blue 5 4 3 9;");
        Checks.due("cut at the board's end", x.shape(1, 0, 15), 0xC000);
        Checks.due("first row of it", x.shape(1, 0, 14), 0xC000);
        Checks.due("ahead of it", x.shape(1, 0, 13), 0);
        Checks.due("a second box", x.shape(1, 0, 0), 1);
        Checks.due("blue ahead", x.shape(0, 0, 3), 0);
        Checks.due("blue first", x.shape(0, 0, 4), 0xE0);
        Checks.due("blue last", x.shape(0, 0, 12), 0xE0);
        Checks.due("blue behind", x.shape(0, 0, 13), 0);
        Checks.due("spread by 2 is a slope", x.shape(0, 2, 3), 0x1F0);
        Checks.due("spread by 2, its tip", x.shape(0, 2, 2), 0xE0);
        Checks.due("spread by 2, inside", x.shape(0, 2, 8), 0x3F8);
        Checks.due("choked by 1", x.shape(0, -1, 5), 0x40);
        Checks.due("choked away", x.shape(0, -2, 8), 0);
        int[][] wrong = {{-1, 0, 0}, {4, 0, 0}, {0, 3, 0}, {0, -3, 0}, {0, 0, -1}, {0, 0, 16}, {0, 0, Integer.MIN_VALUE}};
        for (int i = 0; i < wrong.length; i++) {
            Checks.due("wrong shape " + i, x.shape(wrong[i][0], wrong[i][1], wrong[i][2]), -2);
        }
    }

    private static void spreadAtTheEdge() {
        FourInks x = Checks.told("box blue 0 0 16 16; box red 0 0 3 3; box yellow 15 15 1 1;");
        for (int y = 0; y < 16; y++) {
            Checks.due("a full board isn't choked", x.shape(0, -2, y), 0xFFFF);
        }
        Checks.due("choked off the edge alone", x.shape(1, -1, 0), 3);
        Checks.due("choked at its upper row", x.shape(1, -1, 2), 0);
        Checks.due("choked by 2", x.shape(1, -2, 0), 1);
        Checks.due("choked by 2, next row", x.shape(1, -2, 1), 0);
        Checks.due("spread doesn't come round", x.shape(2, 2, 15), 0xE000);
        Checks.due("nor into the row ahead", x.shape(2, 1, 0), 0);
        Checks.due("spread down", x.shape(2, 2, 13), 0x8000);
    }

    private static void seenCells() {
        FourInks x = Checks.told("white 5; over 2; box blue 0 0 8 16; box red 8 0 8 16; box red 7 0 1 1; box black 0 0 2 1;");
        Checks.due("both SHAPES may lie over", x.seen(0, 1, 0, 0, 0, 0, 1), 0);
        Checks.due("red across", x.seen(0, 1, 0, 0, 1, 0, 0), 15);
        Checks.due("red across by two", x.seen(0, 1, 0, 0, 2, 0, 0), 31);
        Checks.due("red back", x.seen(0, 1, 0, 0, -1, 0, 0), 16);
        Checks.due("red back lies over", x.seen(0, 1, 0, 0, -1, 0, 1), 16);
        Checks.due("SEEN", x.seen(0, 1, 0, 0, -1, 0, 2), 5 * 16 + 2 * 16);
        Checks.due("red up", x.seen(0, 1, 0, 0, 0, 1, 0), 8);
        Checks.due("red up lies over", x.seen(0, 1, 0, 0, 0, 1, 1), 1);
        Checks.due("red down", x.seen(0, 1, 0, 0, 0, -2, 0), 16);
        Checks.due("blue spread", x.seen(0, 1, 1, 0, 1, 0, 0), 0);
        Checks.due("blue spread lies over", x.seen(0, 1, 1, 0, 0, 0, 1), 16);
        Checks.due("blue choked", x.seen(0, 1, -1, 0, 0, 0, 0), 15);
        Checks.due("red spread, then shifted", x.seen(0, 1, 0, 1, 1, 0, 0), 0);
        Checks.due("the second one is shifted", x.seen(1, 0, 0, 0, 1, 0, 0), 16);
        Checks.due("black up is on none that is wanted", x.seen(2, 3, 0, 0, 0, 1, 0), 2);
        int[][] wrong = {{0, 0, 0, 0, 0, 0, 0}, {-1, 1, 0, 0, 0, 0, 0}, {0, 4, 0, 0, 0, 0, 0}, {0, 1, 3, 0, 0, 0, 0},
            {0, 1, -3, 0, 0, 0, 0}, {0, 1, 0, 3, 0, 0, 0}, {0, 1, 0, -3, 0, 0, 0}, {0, 1, 0, 0, 3, 0, 0},
            {0, 1, 0, 0, -3, 0, 0}, {0, 1, 0, 0, 0, 3, 0}, {0, 1, 0, 0, 0, -3, 0}, {0, 1, 0, 0, 0, 0, 3},
            {0, 1, 0, 0, 0, 0, -1}};
        for (int i = 0; i < wrong.length; i++) {
            int[] w = wrong[i];
            Checks.due("wrong seen " + i, x.seen(w[0], w[1], w[2], w[3], w[4], w[5], w[6]), -2);
        }
    }

    private static void worstWithin() {
        FourInks x = Checks.told("white 1; over 0; box blue 0 0 4 4; box red 4 0 4 4;");
        Checks.due("within 0", x.worst(0, 1, 0, 0, 0), 0);
        Checks.due("within 1", x.worst(0, 1, 0, 0, 1), 7);
        Checks.due("within 2", x.worst(0, 1, 0, 0, 2), 12);
        FourInks over = Checks.told("white 0; over 1; box blue 6 0 2 16; box red 4 4 2 4; box black 8 4 2 4; box yellow 6 0 2 4;");
        Checks.due("the last shift across counts", over.worst(0, 1, 0, 0, 2), 8);
        Checks.due("the first shift across counts", over.worst(0, 3, 0, 0, 2), 8);
        Checks.due("shifts across and up at once count", over.worst(3, 2, 0, 0, 2), 4);
        Checks.due("both spread, at the board's end", x.worst(0, 1, 1, 1, 1), 3);
        int[][] wrong = {{0, 0, 0, 0, 0}, {4, 1, 0, 0, 0}, {0, -1, 0, 0, 0}, {0, 1, 3, 0, 0}, {0, 1, 0, -3, 0},
            {0, 1, 0, 0, -1}, {0, 1, 0, 0, 3}};
        for (int i = 0; i < wrong.length; i++) {
            int[] w = wrong[i];
            Checks.due("wrong worst " + i, x.worst(w[0], w[1], w[2], w[3], w[4]), -2);
        }
    }

    private static void bestSpreads() {
        FourInks x = Checks.told("white 9; over 1; box blue 0 0 8 16; box red 8 0 8 16;");
        Checks.due("as it is", x.best(0, 1, 0), 0);
        Checks.due("k", x.spread(0), 0);
        Checks.due("l", x.spread(1), 0);
        int best = x.best(0, 1, 1);
        Checks.due("by its own spreads", x.worst(0, 1, x.spread(0), x.spread(1), 1), best);
        for (int k = -2; k <= 2; k++) {
            for (int l = -2; l <= 2; l++) {
                int worst = x.worst(0, 1, k, l, 1);
                int more = Math.abs(k) + Math.abs(l) - Math.abs(x.spread(0)) - Math.abs(x.spread(1));
                boolean later = k > x.spread(0) || k == x.spread(0) && l >= x.spread(1);
                boolean behind = worst > best || worst == best && (more > 0 || more == 0 && later);
                Checks.due("no better one than " + k + " " + l, behind ? 1 : 0, 1);
            }
        }
        int k = x.spread(0);
        Checks.due("like inks", x.best(1, 1, 1), -2);
        Checks.due("ink -1", x.best(-1, 1, 1), -2);
        Checks.due("ink 4", x.best(0, 4, 1), -2);
        Checks.due("d -1", x.best(0, 1, -1), -2);
        Checks.due("d 3", x.best(0, 1, 3), -2);
        Checks.due("a wrong one changes nothing", x.spread(0), k);
        Checks.due("spread 2", x.spread(2), -99);
        Checks.due("spread -1", x.spread(-1), -99);
        FourInks choke = Checks.told("white 0; over 1; box blue 0 0 8 16; box red 8 0 8 16;");
        Checks.due("either may be choked", choke.best(0, 1, 1), 0);
        Checks.due("the least k", choke.spread(0), -1);
        Checks.due("its l likewise", choke.spread(1), 0);
        FourInks tie = Checks.told("white 1; over 0; box blue 4 4 4 8; box red 8 4 4 8;");
        Checks.due("of like ones the least k", tie.best(0, 1, 1), 0);
        Checks.due("its k", tie.spread(0), 0);
        Checks.due("its l", tie.spread(1), 2);
    }

    private static void proof() {
        FourInks x = Checks.told("box blue 0 0 2 2; box red 1 1 2 2;");
        Checks.due("a wrong number ahead of no PROOF", x.held(25, 12, 12, 12), -2);
        Checks.due("no PROOF", x.held(12, 12, 12, 12), -4);
        Checks.due("sign", x.sign(), 7);
        Checks.due("as it is", x.held(12, 12, 12, 12), 0);
        Checks.due("inks that have no cells", x.held(12, 12, 0, 24), 0);
        Checks.due("blue across", x.held(13, 12, 12, 12), 4);
        Checks.due("blue back is lost", x.held(11, 12, 12, 12), 2);
        Checks.due("blue down is lost", x.held(7, 12, 12, 12), 2);
        Checks.due("blue by 2, 2", x.held(24, 12, 12, 12), 8);
        Checks.due("blue by -2, -2", x.held(0, 12, 12, 12), 4);
        Checks.due("red up by two", x.held(12, 22, 12, 12), 8);
        Checks.due("both across", x.held(13, 13, 12, 12), 8);
        Checks.due("blue -1", x.held(-1, 12, 12, 12), -2);
        Checks.due("red 25", x.held(12, 25, 12, 12), -2);
        Checks.due("yellow 25", x.held(12, 12, 25, 12), -2);
        Checks.due("black -1", x.held(12, 12, 12, -1), -2);
        FourInks late = Checks.told("box yellow 4 4 1 1; box black 8 8 1 3;");
        late.sign();
        Checks.due("yellow across", late.held(12, 12, 13, 12), 2);
        Checks.due("black across", late.held(12, 12, 12, 13), 6);
        Checks.due("black up", late.held(12, 12, 12, 17), 2);
        Checks.put(x, "box red 0 0 2 2; box black 0 0 1 1;");
        x.job();
        Checks.due("another JOB against the PROOF", x.held(12, 12, 12, 12), 7);
        Checks.due("sign again", x.sign(), 4);
        Checks.due("against the new one", x.held(12, 12, 12, 12), 0);
    }
}
