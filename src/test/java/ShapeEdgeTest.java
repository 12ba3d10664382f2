/** The edges of promises 16 to 22 and of Terms III and the PROOF of Terms V; each method stands for the words ahead of it. */
public final class ShapeEdgeTest {
    private static final int WHOLE_ROW = 0xFFFF;

    public static void main(String[] args) {
        boxesAtTheBoardsEnds();
        whatLiesBeyond();
        allBoxes();
        shapeAtItsEnds();
        spreadCells();
        spreadAtTheBoardsEnds();
        chokedCells();
        chokedAtTheBoardsEnds();
        emptyAndFull();
        seenAtItsEnds();
        unlikeInks();
        shiftedOffTheBoard();
        shiftedInside();
        shownWhite();
        lyingOver();
        seenPrices();
        worstAtItsEnds();
        worstShifts();
        bestAtItsEnds();
        bestSpreads();
        spreadAtItsEnds();
        latestBest();
        signedCells();
        signedAsTheyAreThen();
        heldAtItsEnds();
        heldShifts();
        heldSets();
        Checks.finish();
    }

    private static void rows(String name, FourInks x, int ink, int k, int... rows) {
        for (int y = 0; y < 16; y++) {
            int due = y < rows.length ? rows[y] : 0;
            Checks.due(name + ", row " + y, x.shape(ink, k, y), due);
        }
    }

    // ---- SHAPES

    /** "SHAPES on a board of 16 by 16 cells": x is bit x. */
    private static void boxesAtTheBoardsEnds() {
        for (int end = 0; end <= 15; end += 15) {
            for (int side = 0; side <= 15; side += 15) {
                FourInks x = Checks.told("box yellow " + end + " " + side + " 1 1;");
                int[] due = new int[16];
                due[side] = 1 << end;
                rows("a corner", x, 2, 0, due);
            }
        }
        FourInks x = Checks.told("box blue 0 0 16 16; box red 0 15 16 1; box black 15 0 1 16;");
        for (int y = 0; y < 16; y++) {
            Checks.due("all of it, row " + y, x.shape(0, 0, y), WHOLE_ROW);
            Checks.due("the last row, row " + y, x.shape(1, 0, y), y == 15 ? WHOLE_ROW : 0);
            Checks.due("the last column, row " + y, x.shape(3, 0, y), 0x8000);
        }
    }

    /** "(what lies beyond isn't there)" */
    private static void whatLiesBeyond() {
        rows("across by one more", Checks.told("box red 1 0 16 1;"), 1, 0, 0xFFFE);
        rows("up by one more", Checks.told("box red 0 1 1 16;"), 1, 0, 0, 1, 1, 1, 1, 1, 1, 1, 1, 1, 1, 1, 1, 1, 1, 1);
        FourInks far = Checks.told("box red 15 15 16 16;");
        Checks.due("one cell is left", far.shape(1, 0, 15), 0x8000);
        Checks.due("no row ahead", far.shape(1, 0, 14), 0);
        Checks.due("nothing comes round", far.shape(1, 0, 0), 0);
        Checks.due("one cell is signed", far.sign(), 1);
        Checks.due("what isn't there doesn't come back", far.held(12, 6, 12, 12), 2);
    }

    /** "that of an INK: all cells of its boxes" */
    private static void allBoxes() {
        StringBuilder text = new StringBuilder();
        int[] due = new int[16];
        for (int k = 0; k < 8; k++) {
            text.append("box blue ").append(2 * k).append(" ").append(2 * k).append(" 2 1;");
            due[2 * k] = 3 << 2 * k;
        }
        FourInks x = Checks.told(text.toString());
        rows("eight boxes", x, 0, 0, due);
        rows("another ink", x, 1, 0);
        rows("boxes over one another", Checks.told("box red 0 0 3 2; box red 1 1 3 2;"), 1, 0, 7, 15, 14);
    }

    /** shape(): "Row y (0 .. 15) of an INK's SHAPE, spread by k (-2 .. 2) ..; RANGE." */
    private static void shapeAtItsEnds() {
        FourInks x = Checks.told("box blue 0 0 16 16; box black 4 4 5 5;");
        Checks.ends("shape of ink", 0, WHOLE_ROW, 3, 0x1F0, -2, ink -> x.shape(ink, 0, 6));
        Checks.ends("shape by k", -2, 0x40, 2, 0x7FC, -2, k -> x.shape(3, k, 6));
        Checks.ends("shape in row", 0, WHOLE_ROW, 15, WHOLE_ROW, -2, y -> x.shape(0, 0, y));
    }

    /** "SPREAD by k (1, 2): k times all cells next to one of it (across, up) come to it" */
    private static void spreadCells() {
        FourInks x = Checks.told("box red 5 5 1 1;");
        rows("not spread", x, 1, 0, 0, 0, 0, 0, 0, 0x20);
        rows("spread by 1", x, 1, 1, 0, 0, 0, 0, 0x20, 0x70, 0x20);
        rows("spread by 2", x, 1, 2, 0, 0, 0, 0x20, 0x70, 0xF8, 0x70, 0x20);
    }

    private static void spreadAtTheBoardsEnds() {
        rows("at the first corner", Checks.told("box red 0 0 1 1;"), 1, 2, 7, 3, 1);
        int[] last = new int[16];
        last[15] = 0xE000;
        last[14] = 0xC000;
        last[13] = 0x8000;
        rows("at the last corner", Checks.told("box red 15 15 1 1;"), 1, 2, last);
        int[] column = new int[16];
        column[3] = 0x8000;
        column[4] = 0xC000;
        column[5] = 0x8000;
        rows("at the last column", Checks.told("box red 15 4 1 1;"), 1, 1, column);
        rows("at the first column", Checks.told("box red 0 4 1 1;"), 1, 1, 0, 0, 0, 1, 3, 1);
        // a board's rows are kept in several words
        for (int y = 1; y < 15; y++) {
            int[] due = new int[16];
            due[y - 1] = 0x100;
            due[y] = 0x380;
            due[y + 1] = 0x100;
            rows("at row " + y, Checks.told("box red 8 " + y + " 1 1;"), 1, 1, due);
        }
    }

    /** "CHOKED by k (-1, -2): k times all its cells go that are next to a cell that isn't its own" */
    private static void chokedCells() {
        FourInks x = Checks.told("box red 3 3 5 5; box blue 3 3 4 4; box black 3 3 9 2;");
        rows("choked by 1", x, 1, -1, 0, 0, 0, 0, 0x70, 0x70, 0x70);
        rows("choked by 2", x, 1, -2, 0, 0, 0, 0, 0, 0x20);
        rows("of four by 1", x, 0, -1, 0, 0, 0, 0, 0x30, 0x30);
        rows("of four by 2", x, 0, -2);
        rows("of two rows", x, 3, -1);
        // a cell that isn't its own at a corner alone isn't next to it
        FourInks hole = Checks.told("box red 0 0 16 7; box red 0 8 16 8; box red 0 7 8 1; box red 9 7 7 1;");
        int[] due = new int[16];
        for (int y = 0; y < 16; y++) {
            due[y] = y == 7 ? WHOLE_ROW & ~0x380 : y == 6 || y == 8 ? WHOLE_ROW & ~0x100 : WHOLE_ROW;
        }
        rows("a hole by 1", hole, 1, -1, due);
        due[5] = due[9] = WHOLE_ROW & ~0x100;
        due[6] = due[8] = WHOLE_ROW & ~0x380;
        due[7] = WHOLE_ROW & ~0x7C0;
        rows("a hole by 2", hole, 1, -2, due);
    }

    /** "(beyond the board there is none)" */
    private static void chokedAtTheBoardsEnds() {
        FourInks x = Checks.told("box blue 0 0 4 4; box red 12 0 4 4; box yellow 0 0 16 2; box black 0 14 16 2;");
        rows("the first corner by 1", x, 0, -1, 7, 7, 7);
        rows("the first corner by 2", x, 0, -2, 3, 3);
        rows("the first row's end", x, 1, -1, 0xE000, 0xE000, 0xE000);
        rows("the first rows", x, 2, -1, WHOLE_ROW);
        rows("the first rows by 2", x, 2, -2);
        int[] last = new int[16];
        last[15] = WHOLE_ROW;
        rows("the last rows", x, 3, -1, last);
        rows("the last rows by 2", x, 3, -2);
    }

    private static void emptyAndFull() {
        FourInks x = Checks.told("box blue 0 0 16 16;");
        for (int k = -2; k <= 2; k++) {
            for (int y = 0; y < 16; y++) {
                Checks.due("a full board by " + k, x.shape(0, k, y), WHOLE_ROW);
                Checks.due("an empty board by " + k, x.shape(1, k, y), 0);
            }
        }
    }

    // ---- two INKS

    /** "the first spread by k, the second by l and shifted by i, j (-2 .. 2)", "what 0 .. 2; RANGE." */
    private static void seenAtItsEnds() {
        FourInks x = Checks.told("white 10; over 1; box blue 0 4 8 8; box red 8 4 8 8; box black 0 4 8 8;");
        Checks.ends("seen of one", 0, 0, 3, 0, -2, one -> x.seen(one, 1, 0, 0, 0, 0, 2));
        Checks.ends("seen of two", 0, 0, 3, 0, -2, two -> x.seen(1, two, 0, 0, 0, 0, 2));
        Checks.ends("seen by k", -2, 10 * (64 - 6 * 4), 2, 16, -2, k -> x.seen(0, 1, k, 0, 0, 0, 2));
        Checks.ends("seen by l", -2, 10 * (64 - 6 * 4), 2, 16, -2, l -> x.seen(0, 1, 0, l, 0, 0, 2));
        Checks.ends("seen by i", -2, 176, 2, 160, -2, i -> x.seen(0, 1, 0, 0, i, 0, 2));
        Checks.ends("seen by j", -2, 160, 2, 160, -2, j -> x.seen(0, 1, 0, 0, 0, j, 2));
        Checks.ends("seen what", 0, 8, 2, 88, -2, what -> x.seen(0, 1, 0, 0, -1, 0, what));
        Checks.due("seen what 1", x.seen(0, 1, 0, 0, -1, 0, 1), 8);
    }

    /** "Of two unlike INKS" */
    private static void unlikeInks() {
        FourInks x = Checks.told("box blue 0 0 1 1; box red 0 0 1 1; box yellow 0 0 1 1; box black 0 0 1 1;");
        for (int one = -1; one <= 4; one++) {
            for (int two = -1; two <= 4; two++) {
                boolean good = one != two && Math.min(one, two) >= 0 && Math.max(one, two) <= 3;
                String inks = " of " + one + " and " + two;
                Checks.due("seen" + inks, x.seen(one, two, 0, 0, 1, 0, 0), good ? 0 : -2);
                Checks.due("worst" + inks, x.worst(one, two, 0, 0, 1), good ? 0 : -2);
                Checks.due("best" + inks, x.best(one, two, 1), good ? 0 : -2);
            }
        }
    }

    /** "SHIFTED by i, j (-2 .. 2): each cell goes i across, j up; what leaves the board is lost." */
    private static void shiftedOffTheBoard() {
        FourInks x = Checks.told("box red 0 0 16 16;");
        for (int i = -2; i <= 2; i++) {
            for (int j = -2; j <= 2; j++) {
                int left = (16 - Math.abs(i)) * (16 - Math.abs(j));
                Checks.due("white of a full board by " + i + " " + j, x.seen(0, 1, 0, 0, i, j, 0), 256 - left);
                Checks.due("the first isn't shifted", x.seen(1, 0, 0, 0, i, j, 0), 0);
            }
        }
        // a cell in each corner, and the shift by which it goes off at each side
        FourInks corners = Checks.told("box red 0 0 1 1; box red 15 15 1 1; box blue 0 0 16 16;");
        Checks.due("both are there", corners.seen(0, 1, 0, 0, 0, 0, 1), 0);
        Checks.due("one across", corners.seen(0, 1, 0, 0, 1, 0, 1), 1);
        Checks.due("one back", corners.seen(0, 1, 0, 0, -1, 0, 1), 1);
        Checks.due("one up", corners.seen(0, 1, 0, 0, 0, 1, 1), 1);
        Checks.due("one down", corners.seen(0, 1, 0, 0, 0, -1, 1), 1);
        Checks.due("both are lost", corners.seen(0, 1, 0, 0, 1, -1, 1), 0);
        // of the first corner six cells stay, of the last one its own cell alone, which both SHAPES have
        Checks.due("spread first, then shifted", corners.seen(0, 1, 0, 2, 2, 0, 1), 6);
    }

    /** Each cell goes i across, j up: a cell meets the one that lies there, in any row. */
    private static void shiftedInside() {
        for (int y = 2; y < 14; y++) {
            for (int i = -2; i <= 2; i++) {
                for (int j = -2; j <= 2; j++) {
                    String text = "box blue " + (8 + i) + " " + (y + j) + " 1 1; box red 8 " + y + " 1 1;";
                    FourInks x = Checks.told(text);
                    boolean still = i == 0 && j == 0;
                    Checks.due("over by " + i + " " + j + " of " + text, x.seen(0, 1, 0, 0, i, j, 1), still ? 0 : 1);
                    Checks.due("white by " + i + " " + j + " of " + text, x.seen(0, 1, 0, 0, i, j, 0), still ? 0 : 1);
                }
            }
        }
    }

    /** "SHOWN WHITE: cells of WANTED that have neither" */
    private static void shownWhite() {
        FourInks x = Checks.told("box blue 4 4 4 4; box red 8 4 4 4;");
        Checks.due("both as they are", x.seen(0, 1, 0, 0, 0, 0, 0), 0);
        Checks.due("both choked away", x.seen(0, 1, -2, -2, 0, 0, 0), 32);
        Checks.due("one choked away, one spread", x.seen(0, 1, -2, 2, 0, 0, 0), 8);
        Checks.due("cells that aren't wanted", x.seen(0, 1, 2, 2, 2, 2, 0), 0);
        FourInks none = Checks.told("box blue 4 4 4 4;");
        Checks.due("no second", none.seen(0, 1, 0, 0, 2, 2, 0), 0);
        Checks.due("no first", none.seen(1, 0, 0, 0, 2, 2, 0), 12);
        Checks.due("neither", none.seen(1, 2, 0, 0, 2, 2, 2), 0);
    }

    /** "LYING OVER: cells that both have then, but not both SHAPES have." */
    private static void lyingOver() {
        FourInks x = Checks.told("box blue 4 4 4 4; box red 6 4 4 4;");
        Checks.due("both SHAPES have them", x.seen(0, 1, 0, 0, 0, 0, 1), 0);
        Checks.due("one more column", x.seen(0, 1, 0, 0, -1, 0, 1), 4);
        Checks.due("one column less", x.seen(0, 1, 0, 0, 1, 0, 1), 0);
        Checks.due("as the first is spread", x.seen(0, 1, 1, 0, 0, 0, 1), 4);
        Checks.due("as the second is spread", x.seen(0, 1, 0, 1, 0, 0, 1), 4);
        Checks.due("as both are, also beyond what is wanted", x.seen(0, 1, 1, 1, 0, 0, 1), 8 + 4);
        Checks.due("as it is choked", x.seen(0, 1, -1, 0, 0, 0, 1), 0);
    }

    /** "SEEN: white times the one and over times the other.": white, over 0 .. 99 */
    private static void seenPrices() {
        int[][] prices = {{0, 0}, {0, 99}, {99, 0}, {99, 99}, {1, 2}};
        for (int[] price : prices) {
            FourInks x = Checks.told("white " + price[0] + "; over " + price[1] + "; box blue 0 0 8 16; box red 8 0 8 16;");
            Checks.due("seen", x.seen(0, 1, 0, 0, -1, 0, 2), 16 * price[0] + 16 * price[1]);
        }
        FourInks untold = Checks.told("box blue 0 0 8 16; box red 8 0 8 16;");
        Checks.due("without any told", untold.seen(0, 1, 0, 0, -1, 0, 2), 16 * 3 + 16);
        FourInks most = Checks.told("white 99; over 99; box blue 0 0 16 16;");
        Checks.due("the most white", most.worst(1, 0, 0, 0, 2), 99 * (256 - 14 * 14));
    }

    /** worst(): "within d (0 .. 2)", RANGE */
    private static void worstAtItsEnds() {
        FourInks x = Checks.told("white 1; over 0; box blue 0 0 8 16; box red 8 0 8 16; box black 0 0 8 16;");
        Checks.ends("worst of one", 0, 0, 3, 0, -2, one -> x.worst(one, 1, 0, 0, 0));
        Checks.ends("worst of two", 0, 0, 3, 0, -2, two -> x.worst(1, two, 0, 0, 0));
        Checks.ends("worst by k", -2, 32, 2, 0, -2, k -> x.worst(0, 1, k, 0, 0));
        Checks.ends("worst by l", -2, 32, 2, 0, -2, l -> x.worst(0, 1, 0, l, 0));
        Checks.ends("worst within", 0, 0, 2, 16 * 8 - 6 * 14, -2, d -> x.worst(0, 1, 0, 0, d));
        Checks.due("worst within 1", x.worst(0, 1, 0, 0, 1), 16 * 8 - 7 * 15);
    }

    /** "the greatest SEEN of all shifts -d .. d": each of them may be the worst alone. */
    private static void worstShifts() {
        for (int i = -2; i <= 2; i++) {
            for (int j = -2; j <= 2; j++) {
                FourInks x = Checks.told("white 0; over 1; box blue " + (8 + i) + " " + (8 + j) + " 1 1; box red 8 8 1 1;");
                int far = Math.max(Math.abs(i), Math.abs(j));
                for (int d = 0; d <= 2; d++) {
                    Checks.due("worst within " + d + " at " + i + " " + j, x.worst(0, 1, 0, 0, d), far > 0 && far <= d ? 1 : 0);
                }
            }
        }
    }

    /** best(): "BEST of two unlike INKS within d: the least WORST; RANGE." */
    private static void bestAtItsEnds() {
        FourInks x = Checks.told("white 1; over 0; box blue 4 4 4 4; box red 8 4 4 4; box black 4 4 4 4;");
        Checks.ends("best of one", 0, 0, 3, 0, -2, one -> x.best(one, 1, 0));
        Checks.ends("best of two", 0, 0, 3, 0, -2, two -> x.best(1, two, 0));
        // a spread by 2 is a slope: shifted by 2 and 2 it leaves three cells of a corner
        Checks.ends("best within", 0, 0, 2, 3, -2, d -> x.best(0, 1, d));
        int[][] wrong = {{-1, 1, 1}, {4, 1, 1}, {1, -1, 1}, {1, 4, 1}, {2, 2, 1}, {2, 3, -1}, {2, 3, 3}};
        for (int[] w : wrong) {
            String call = "best " + w[0] + " " + w[1] + " " + w[2];
            Twin.refused(call, Twin::busy, -2, press -> press.best(w[0], w[1], w[2]));
        }
    }

    private static void best(FourInks x, int one, int two, int d, int... due) {
        Checks.due("best within " + d, x.best(one, two, d), due[0]);
        Checks.due("its k", x.spread(0), due[1]);
        Checks.due("its l", x.spread(1), due[2]);
    }

    /** "k and l (-2 .. 2 each) with the least WORST; then .. without its sign .. together; then the least k, then l." */
    private static void bestSpreads() {
        FourInks white = Checks.told("white 1; over 0; box blue 0 0 8 16; box red 8 0 8 16;");
        best(white, 0, 1, 0, 0, 0, 0);
        best(white, 1, 0, 0, 0, 0, 0);
        FourInks edge = Checks.told("white 1; over 0; box red 0 0 16 16;");
        Checks.due("what goes off can't be mended at the board's end", edge.worst(0, 1, 0, 2, 1), 31);
        best(edge, 0, 1, 1, 31, 0, 0);
        best(edge, 0, 1, 2, 60, 0, 0);
        FourInks inside = Checks.told("white 1; over 0; box red 4 4 8 8;");
        best(inside, 0, 1, 1, 0, 0, 2);
        best(inside, 0, 1, 2, 3, 0, 2);
        // the first isn't shifted
        best(inside, 1, 0, 1, 0, 0, 0);
        best(inside, 1, 0, 2, 0, 0, 0);
        FourInks alike = Checks.told("white 1; over 0; box red 4 4 8 8; box blue 4 4 8 8;");
        best(alike, 0, 1, 2, 0, 0, 0);
    }

    /** spread(): "what 0: k, 1: l; -99 without, or another what." */
    private static void spreadAtItsEnds() {
        FourInks x = Checks.told("white 0; over 1; box blue 0 0 8 16; box red 8 0 8 16;");
        Checks.beyond("spread ahead of best", 0, 1, -99, x::spread);
        Checks.due("k ahead of best", x.spread(0), -99);
        Checks.due("l ahead of best", x.spread(1), -99);
        x.best(0, 1, 2);
        Checks.ends("spread", 0, -2, 1, 0, -99, x::spread);
    }

    /** "By the latest best() that told a number" */
    private static void latestBest() {
        FourInks x = Checks.told("white 0; over 1; box blue 0 0 8 16; box red 8 0 8 16;");
        best(x, 0, 1, 1, 0, -1, 0);
        Checks.due("a refused one", x.best(0, 0, 1), -2);
        Checks.due("another k by hand", x.worst(0, 1, 2, 2, 1) > 0 ? 1 : 0, 1);
        Checks.due("k", x.spread(0), -1);
        Checks.due("l", x.spread(1), 0);
        best(x, 0, 1, 2, 0, -2, 0);
        best(x, 2, 3, 2, 0, 0, 0);
    }

    // ---- the PROOF

    /** sign(): "how many cells of the board have an INK at least." */
    private static void signedCells() {
        Checks.due("none", new FourInks().sign(), 0);
        Checks.due("all", Checks.told("box black 0 0 16 16;").sign(), 256);
        Checks.due("all by four inks", Checks.told("box blue 0 0 8 8; box red 8 0 8 8; box yellow 0 8 8 8; box black 8 8 8 8;")
            .sign(), 256);
        Checks.due("cells of several inks count once",
            Checks.told("box blue 0 0 2 2; box red 0 0 2 2; box yellow 1 1 2 2; box black 1 1 1 1;").sign(), 7);
    }

    /** "A PROOF is signed: the JOB's SHAPES as they are then": it stays behind other JOBS, and a new one takes its place. */
    private static void signedAsTheyAreThen() {
        FourInks x = Checks.told("box blue 0 0 4 4;");
        Checks.due("not signed", x.count(3), 0);
        Checks.due("held without a PROOF", x.held(12, 12, 12, 12), -4);
        Checks.due("sign", x.sign(), 16);
        Checks.due("signed", x.count(3), 1);
        Checks.put(x, "box blue 0 0 4");
        Checks.due("a job with a FAULT", x.job(), -1);
        Checks.due("the PROOF stays", x.held(12, 12, 12, 12), 0);
        Checks.put(x, "");
        Checks.due("an empty job", x.job(), 0);
        Checks.due("still signed", x.count(3), 1);
        Checks.due("against the old SHAPES", x.held(12, 12, 12, 12), 16);
        Checks.due("sign nothing", x.sign(), 0);
        Checks.due("an empty PROOF is one", x.count(3), 1);
        Checks.due("against nothing", x.held(0, 24, 12, 1), 0);
    }

    /** held(): "(0 .. 24, one number for each INK ..); RANGE; STATE: no PROOF." */
    private static void heldAtItsEnds() {
        FourInks x = Checks.told("box blue 4 4 1 1; box red 4 8 1 1; box yellow 8 4 1 1; box black 8 8 1 1;");
        Checks.due("no PROOF at the first code", x.held(0, 0, 0, 0), -4);
        Checks.due("no PROOF at the last code", x.held(24, 24, 24, 24), -4);
        x.sign();
        Checks.ends("held blue", 0, 2, 24, 2, -2, code -> x.held(code, 12, 12, 12));
        Checks.ends("held red", 0, 2, 24, 2, -2, code -> x.held(12, code, 12, 12));
        Checks.ends("held yellow", 0, 2, 24, 2, -2, code -> x.held(12, 12, code, 12));
        Checks.ends("held black", 0, 2, 24, 2, -2, code -> x.held(12, 12, 12, code));
        Checks.due("all at once", x.held(0, 20, 4, 24), 8);
        Checks.due("two of which come to one cell", x.held(0, 4, 20, 24), 7);
        Twin.refused("held by 25", Twin::busy, -2, press -> press.held(25, 12, 12, 12));
        Twin.refused("held without a PROOF", () -> Checks.told(Twin.JOB), -4, press -> press.held(12, 12, 12, 12));
    }

    /** "each INK shifted by 5 times (j and 2), and i and 2 (..; 12 is not shifted)" */
    private static void heldShifts() {
        for (int code = 0; code <= 24; code++) {
            int i = code % 5 - 2;
            int j = code / 5 - 2;
            FourInks x = Checks.told("box red " + (8 + i) + " " + (8 + j) + " 1 1;");
            x.sign();
            Checks.put(x, "box red 8 8 1 1;");
            x.job();
            Checks.due("the code that fits, " + code, x.held(12, code, 12, 12), 0);
            for (int other = 0; other <= 24; other++) {
                Checks.due("code " + other + " for " + code, x.held(12, other, 12, 12), other == code ? 0 : 2);
            }
        }
        FourInks full = Checks.told("box blue 0 0 16 16; box red 0 0 16 16;");
        full.sign();
        for (int code = 0; code <= 24; code++) {
            int left = (16 - Math.abs(code % 5 - 2)) * (16 - Math.abs(code / 5 - 2));
            Checks.due("a full board by " + code, full.held(code, 12, 12, 12), 256 - left);
            Checks.due("two of them by " + code, full.held(code, code, 12, 12), 256 - left);
        }
    }

    /** "how many cells of the board have another set of INKS now" */
    private static void heldSets() {
        FourInks x = Checks.told("box blue 0 0 16 16;");
        x.sign();
        Checks.put(x, "box black 0 0 16 16;");
        x.job();
        Checks.due("all cells have another one", x.held(12, 12, 12, 12), 256);
        Checks.put(x, "box blue 0 0 16 16; box red 0 0 1 1; box yellow 0 0 2 1; box black 0 0 1 2;");
        x.job();
        Checks.due("inks that came", x.held(12, 12, 12, 12), 3);
        Checks.put(x, "");
        x.job();
        Checks.due("inks that went", x.held(12, 12, 12, 12), 256);
    }
}
