/** Promises 23 to 27: RUNS, HALTS, TISSUE. */
public final class RunTest {
    public static void main(String[] args) {
        causes();
        wrongRuns();
        costs();
        wrongCosts();
        tissue();
        wrongTissue();
        Checks.finish();
    }

    private static void cause(String row, int e, int due) {
        FourInks x = new FourInks();
        Checks.put(x, row);
        Checks.due("causes(" + e + ") of " + row, x.causes(e), due);
        Checks.due("the tape is empty behind " + row, x.count(4), 0);
    }

    private static void causes() {
        cause("7", 0, 1);
        cause("-999 999", 99, 2);
        cause("0 2", 1, 1);
        cause("0 3", 1, 6);
        cause("0 50", 0, 6);
        cause("0 51", 0, 2);
        cause("0 52", 1, 6);
        cause("0 53", 1, 2);
        cause("0 -50 -100", 0, 4);
        cause("0 -51 -102", 0, 0);
        cause("0 0 9 9", 0, 2);
        cause("0 9 0", 0, 0);
        cause("0 1 0", 0, 0);
        cause("0 1 0 1", 1, 1);
        cause("1 1 1 5 1", 1, 0);
        cause("1 1 1 1 5", 1, 2);
        cause("1 1 1 2 5", 1, 6);
        cause("5-5", 0, 6);
        cause("- 5 \n -5", 0, 1);
        cause("0999 -0999 ", 99, 2);
        cause("1 ".repeat(24), 0, 1);
        cause("1 ".repeat(23) + "90", 0, 2);
    }

    private static void wrongRuns() {
        cause("", 0, -1);
        cause("  ", 0, -1);
        cause("-", 0, -1);
        cause("1 -", 0, -1);
        cause("--1", 0, -1);
        cause("1000", 0, -1);
        cause("-1000", 0, -1);
        cause("00001", 0, -1);
        cause("1;", 0, -1);
        cause("x", 0, -1);
        cause("1,2", 0, -1);
        cause("1 ".repeat(25), 0, -1);
        cause("1 ".repeat(24) + "-", 0, -1);
        cause("1", -1, -2);
        cause("1", 100, -2);
        cause("x", 100, -2);
        cause("1", 99, 1);
    }

    private static void costs() {
        FourInks x = new FourInks();
        Checks.due("one block", x.cost(1, 6, 999, 999, 0, 10), 9990);
        Checks.due("one block that isn't worth a halt", x.cost(1, 6, 1, 7, 5, 5), 60);
        Checks.due("halt at a like price", x.halt(1, 6, 1, 6, 5, 5), 0);
        Checks.due("halt at a lower price", x.halt(1, 6, 1, 5, 5, 5), 1);
        Checks.due("two, always more", x.cost(2, 0, 3, 999, 10, 0), 300);
        Checks.due("two, always more from 6", x.cost(2, 6, 3, 999, 10, 0), 3600);
        Checks.due("two, always less from 1", x.cost(2, 1, 3, 999, 0, 10), 300);
        Checks.due("two, always less from 0", x.cost(2, 0, 3, 999, 0, 10), 0);
        Checks.due("two, mixed from 2", x.cost(2, 2, 10, 999, 3, 2), 4100);
        Checks.due("a halt that pays later alone", x.halt(2, 1, 10, 15, 0, 0), 1);
        Checks.due("its cost", x.cost(2, 1, 10, 15, 0, 0), 1500);
        Checks.due("of one block", x.halt(1, 1, 10, 15, 0, 0), 0);
        Checks.due("a halt and what comes behind it", x.cost(2, 6, 10, 5, 10, 0), 1000);
        Checks.due("eight", x.cost(8, 6, 999, 999, 0, 0), 99900000000L);
        Checks.due("eight without halts", x.cost(8, 1, 1, 999, 0, 0), 800000000L);
        Checks.due("free halts", x.cost(8, 6, 999, 0, 0, 0), 0);
        Checks.due("a free halt", x.halt(8, 6, 999, 0, 0, 0), 1);
        Checks.due("a free halt at 0", x.halt(8, 0, 999, 0, 5, 5), 0);
    }

    private static void wrongCosts() {
        FourInks x = new FourInks();
        int[][] wrong = {{0, 0, 0, 0, 0, 0}, {9, 0, 0, 0, 0, 0}, {1, -1, 0, 0, 0, 0}, {1, 7, 0, 0, 0, 0},
            {1, 0, -1, 0, 0, 0}, {1, 0, 1000, 0, 0, 0}, {1, 0, 0, -1, 0, 0}, {1, 0, 0, 1000, 0, 0},
            {1, 0, 0, 0, -1, 0}, {1, 0, 0, 0, 11, 0}, {1, 0, 0, 0, 0, -1}, {1, 0, 0, 0, 0, 11}, {1, 0, 0, 0, 6, 5},
            {1, 0, 0, 0, Integer.MAX_VALUE, Integer.MAX_VALUE}, {1, 0, 0, 0, 11, -1}};
        for (int i = 0; i < wrong.length; i++) {
            int[] w = wrong[i];
            Checks.due("wrong cost " + i, x.cost(w[0], w[1], w[2], w[3], w[4], w[5]), -2);
            Checks.due("wrong halt " + i, x.halt(w[0], w[1], w[2], w[3], w[4], w[5]), -2);
        }
    }

    private static void bed(String greys, int step, int target, int t, int scraps, int... layers) {
        FourInks x = new FourInks();
        Checks.put(x, greys);
        String call = "tissue(" + step + ", " + target + ", " + t + ") of " + greys;
        Checks.due(call, x.tissue(step, target, t), scraps);
        Checks.due("the tape is empty behind " + call, x.count(4), 0);
        int sum = scraps < 0 ? -1 : 0;
        for (int k = 0; k < layers.length; k++) {
            Checks.due("layers " + k + " of " + call, x.layers(k), layers[k]);
            sum += layers[k];
        }
        Checks.due("layers behind those of " + call, x.layers(layers.length), -1);
        Checks.due("all layers of " + call, x.layers(-1), sum);
        Checks.due("layers -2 of " + call, x.layers(-2), -1);
    }

    private static void tissue() {
        bed("50", 10, 50, 0, 0, 0);
        bed("0", 1, 9, 0, 9, 9);
        bed("0", 20, 120, 0, 6, 6);
        bed("99", 20, 99, 0, 0, 0);
        bed("0 0", 20, 20, 20, 0, 0, 0);
        // the middle zone may have 0 layers, but then more SCRAPS are needed
        bed("10 25 10", 10, 30, 5, 3, 2, 1, 2);
        bed("10 20 10", 10, 30, 10, 1, 1, 1, 1);
        bed("10 28 10", 5, 30, 3, 7, 4, 1, 4);
        // of like SCRAPS the least sum of layers
        bed("0 10 0 20", 10, 20, 10, 1, 1, 1, 1, 0);
        bed("20 10 10 20", 10, 20, 10, 0, 0, 0, 0, 0);
        bed("0 20 5 0", 10, 20, 5, 4, 2, 0, 1, 2);
        bed("0 ".repeat(20), 1, 0, 0, 0, new int[20]);
        bed("00 0001", 1, 1, 0, 1, 1, 0);
    }

    private static void wrongTissue() {
        bed("", 1, 1, 1, -1);
        bed("0 ".repeat(21), 1, 0, 0, -1);
        bed("100", 1, 1, 1, -1);
        bed("100", 1, 100, 0, -1);
        bed("-1", 1, 1, 1, -1);
        bed("00001", 1, 1, 1, -1);
        bed("1;", 1, 1, 1, -1);
        bed("a", 1, 1, 1, -1);
        bed("1", 0, 1, 1, -2);
        bed("1", 21, 1, 1, -2);
        bed("1", 1, -1, 1, -2);
        bed("1", 1, 121, 1, -2);
        bed("1", 1, 1, -1, -2);
        bed("1", 1, 1, 21, -2);
        bed("a", 1, 1, 21, -2);
        // too light with 9 layers, too dark with none, between two layers
        bed("0", 1, 10, 0, -1);
        bed("11", 1, 10, 0, -1);
        bed("0", 20, 10, 9, -1);
        bed("10 11", 1, 10, 0, -1);
        FourInks x = new FourInks();
        Checks.put(x, "1 2");
        Checks.due("told", x.tissue(1, 3, 0), 2);
        Checks.put(x, "99");
        Checks.due("none", x.tissue(1, 3, 0), -1);
        Checks.due("the latest that told a number", x.layers(0), 2);
        Checks.put(x, "3");
        Checks.due("wrong", x.tissue(0, 3, 0), -2);
        Checks.due("still the latest", x.layers(1), 1);
        Checks.due("still its sum", x.layers(-1), 3);
        Checks.put(x, "3");
        Checks.due("a shorter row", x.tissue(1, 3, 0), 0);
        Checks.due("no second zone", x.layers(1), -1);
    }
}
