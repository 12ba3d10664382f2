import java.util.Arrays;

/** The edges of promises 23 to 27 and of Terms IV; each method stands for the words ahead of it. */
public final class RunEdgeTest {
    public static void main(String[] args) {
        longestRun();
        numbersOfARun();
        noSuchRun();
        causesAtItsEnds();
        chance();
        jump();
        drift();
        costAtItsEnds();
        haltAtItsEnds();
        chancesTogether();
        notBeyondNorBelow();
        offAtItsBegin();
        timesTen();
        onlyIfItCostsLess();
        zonesOfARow();
        noSuchRow();
        tissueAtItsEnds();
        atLeastAndAtMost();
        mostLayers();
        fewestScraps();
        noneIfSomeZoneCantBe();
        layersAtItsEnds();
        latestTissue();
        Checks.finish();
    }

    private static void cause(String row, int e, int due) {
        FourInks x = Checks.taped(row);
        Checks.due("causes(" + e + ") of " + row, x.causes(e), due);
        Checks.due("the tape behind " + row, x.count(4), 0);
    }

    // ---- CAUSES

    /** "a row of numbers on THE TAPE (V, at most 24, ..)" */
    private static void longestRun() {
        cause("7 ".repeat(24), 0, 1);
        cause("7 ".repeat(25), 0, -1);
        cause("7 ".repeat(23) + "9", 0, 2);
        cause("7 ".repeat(24) + "-", 0, -1);
        cause("7 ".repeat(24) + ";", 0, -1);
        cause("7 ".repeat(24) + "x", 0, -1);
        cause("7 ".repeat(24) + "00000", 0, -1);
        cause("-7 ".repeat(24), 0, 1);
        cause("-7 ".repeat(25), 0, -1);
        cause(" ".repeat(899) + "7", 0, 1);
        cause("7" + "\n".repeat(899), 0, 1);
        StringBuilder steps = new StringBuilder();
        for (int k = 0; k < 24; k++) {
            steps.append(-40 * k).append(" ");
        }
        cause(steps.toString(), 0, 4);
        cause(steps.substring(0, steps.length() - 1) + "1", 0, -1);
    }

    /** "each 0 .. 999 without its sign" */
    private static void numbersOfARun() {
        String[] good = {"0", "-0", "999", "-999", "0999", "- 0999", "00", "0000"};
        for (String number : good) {
            cause(number, 0, 1);
            cause(number + " " + number, 0, 1);
        }
        String[] wrong = {"1000", "-1000", "9999", "00999", "00000", "4294967296"};
        for (String number : wrong) {
            cause(number, 0, -1);
            cause("1 " + number, 0, -1);
            cause(number + " 1", 0, -1);
        }
        cause("999 -999", 99, 2);
        cause("0-0", 0, 1);
        cause("1-1", 0, 6);
    }

    /** "NONE: it is no such row (one number at least)." */
    private static void noSuchRun() {
        String[] wrong = {"", " ", "\n", "-", "1 -", "- -1", "--1", "1;", ";", "1 ; 2", "a", "1 a", "1,2", "+1", "1.5", "\t1"};
        for (String row : wrong) {
            cause(row, 0, -1);
            cause(row, 99, -1);
        }
    }

    /** "CAUSES with slack e (0 .. 99), as bits; RANGE: e" */
    private static void causesAtItsEnds() {
        Checks.ends("causes", 0, 6, 99, 1, -2, e -> Checks.taped("0 7").causes(e));
        Checks.ends("causes at the slack's ends", 0, 2, 99, 1, -2, e -> Checks.taped("0 198").causes(e));
        Checks.ends("causes beyond the slack", 0, 2, 99, 6, -2, e -> Checks.taped("0 199").causes(e));
    }

    /** "CHANCE: some level from which each differs by e at most" */
    private static void chance() {
        int[] slacks = {0, 1, 2, 50, 99};
        for (int e : slacks) {
            String far = " " + 2 * e;
            String farther = " " + (2 * e + 1);
            cause("0" + far, e, 1);
            cause("0" + farther, e, 6);
            cause("0" + far + " 0" + far + " 0", e, 1);
            cause("0" + farther + " 0" + farther + " 0", e, 0);
            cause("-" + e + " " + e, e, 1);
            cause("-" + (e + 1) + " " + e, e, 6);
        }
    }

    /** "JUMP: .. two levels, the first one up to some sheet (at least one), the other one from the next on" */
    private static void jump() {
        cause("9 1 1 1", 0, 2);
        cause("1 1 1 9", 0, 2);
        cause("1 1 9 9", 0, 2);
        cause("9 1 1 9", 0, 0);
        cause("1 9 1 1", 0, 0);
        cause("0 2 60 62", 1, 2);
        cause("0 3 60 62", 1, 0);
        cause("0 2 60 63", 1, 0);
        cause("0 2 200 202", 1, 2);
        cause("0 198 999 801", 99, 2);
        cause("0 199 999 801", 99, 0);
        cause("0 198 999 800", 99, 0);
        cause("9 " + "1 ".repeat(23), 0, 2);
        cause("1 ".repeat(12) + "9 ".repeat(12), 0, 2);
        cause("1 ".repeat(12) + "9 ".repeat(11) + "1", 0, 0);
    }

    /** "DRIFT: some level and some step (-50 .. 50, not 0) .., and it isn't CHANCE." */
    private static void drift() {
        cause("0 50 100", 0, 4);
        cause("0 51 102", 0, 0);
        cause("0 -50 -100", 0, 4);
        cause("0 -51 -102", 0, 0);
        cause("0 1 2", 0, 4);
        cause("2 1 0", 0, 4);
        cause("0 1 2", 1, 1);
        cause("0 50", 0, 6);
        cause("0 51", 0, 2);
        cause("50 0", 0, 6);
        cause("51 0", 0, 2);
        cause("0 52", 1, 6);
        cause("0 53", 1, 2);
        cause("0 248", 99, 6);
        cause("0 249", 99, 2);
        cause("0 52 100", 1, 4);
        cause("0 52 104", 1, 0);
        cause("0 51 102", 1, 4);
        cause("0 3 3 6", 0, 0);
        // by steps of 0 alone it would be CHANCE, by none else it fits
        cause("0 1 0 1 0 1 1 0", 0, 0);
        StringBuilder most = new StringBuilder();
        for (int k = 0; k < 24; k++) {
            most.append(43 * k).append(" ");
        }
        cause(most.toString(), 0, 4);
    }

    // ---- HALTS

    /** cost(): "of n blocks (1 .. 8), off 0 .. 6, spoil, price 0 .. 999, up, down 0 .. 10 ..; RANGE." */
    private static void costAtItsEnds() {
        FourInks x = new FourInks();
        Checks.ends("cost of n", 1, 10, 8, 800_000_000L, -2, n -> x.cost(n, 1, 1, 999, 0, 0));
        Checks.ends("cost off", 0, 0, 6, 60, -2, off -> x.cost(1, off, 1, 999, 0, 0));
        Checks.ends("cost of spoil", 0, 0, 999, 9990, -2, spoil -> x.cost(1, 1, spoil, 999, 0, 0));
        Checks.ends("cost of price", 0, 0, 999, 9990, -2, price -> x.cost(1, 6, 999, price, 0, 0));
        Checks.ends("cost up", 0, 200, 10, 300, -2, up -> x.cost(2, 1, 1, 999, up, 0));
        Checks.ends("cost down", 0, 200, 10, 100, -2, down -> x.cost(2, 1, 1, 999, 0, down));
        Checks.due("the dearest", x.cost(8, 6, 999, 999, 10, 0), 7 * 99_900_000_000L + 99_900_000_000L);
    }

    private static void haltAtItsEnds() {
        FourInks x = new FourInks();
        Checks.ends("halt of n", 1, 0, 8, 1, -2, n -> x.halt(n, 1, 10, 15, 0, 0));
        Checks.ends("halt off", 0, 0, 6, 1, -2, off -> x.halt(1, off, 10, 15, 0, 0));
        Checks.ends("halt of spoil", 0, 0, 999, 1, -2, spoil -> x.halt(1, 1, spoil, 998, 0, 0));
        Checks.ends("halt of price", 0, 1, 999, 0, -2, price -> x.halt(1, 1, 999, price, 0, 0));
        // going on costs 20, halting 15; always up: 10 and 15, or 15 and 10; always down: 10 alone
        Checks.ends("halt up", 0, 1, 10, 0, -2, up -> x.halt(2, 1, 10, 15, up, 0));
        Checks.ends("halt down", 0, 1, 10, 0, -2, down -> x.halt(2, 1, 10, 15, 0, down));
    }

    /** "up, down 0 .. 10 (10 together at most)" */
    private static void chancesTogether() {
        FourInks x = new FourInks();
        for (int up = 0; up <= 10; up++) {
            Checks.due("ten together, up " + up, x.cost(1, 1, 1, 2, up, 10 - up), 10);
            Checks.due("eleven together, up " + up, x.cost(1, 1, 1, 2, up, 11 - up), -2);
            Checks.due("halt by ten together, up " + up, x.halt(1, 2, 1, 1, up, 10 - up), 1);
            Checks.due("halt by eleven together, up " + up, x.halt(1, 2, 1, 1, up, 11 - up), -2);
        }
        int far = Integer.MAX_VALUE;
        Checks.due("so many that they wrap around", x.cost(1, 1, 1, 2, far, far), -2);
        Checks.due("that take each other back", x.cost(1, 1, 1, 2, 11, -1), -2);
        Checks.due("that take each other back, down", x.halt(1, 1, 1, 2, -1, 11), -2);
    }

    /** "one more off with a chance up over 10, one less with a chance down over 10 (not beyond 6, nor below 0: it stays)" */
    private static void notBeyondNorBelow() {
        FourInks x = new FourInks();
        Checks.due("not beyond 6", x.cost(2, 6, 1, 999, 10, 0), 1200);
        Checks.due("not below 0", x.cost(2, 0, 1, 999, 0, 10), 0);
        Checks.due("from 6, mixed", x.cost(2, 6, 1, 999, 4, 3), 600 + 4 * 60 + 3 * 50 + 3 * 60);
        Checks.due("from 0, mixed", x.cost(2, 0, 1, 999, 4, 3), 4 * 10);
        Checks.due("from 5 to 6", x.cost(2, 5, 1, 999, 10, 0), 1100);
        Checks.due("from 1 to 0", x.cost(2, 1, 1, 999, 0, 10), 100);
        Checks.due("from 3, mixed", x.cost(2, 3, 1, 999, 1, 6), 300 + 40 + 6 * 20 + 3 * 30);
        Checks.due("eight up from 0", x.cost(8, 0, 1, 999, 10, 0), (1 + 2 + 3 + 4 + 5 + 6 + 6) * 100_000_000L);
        Checks.due("eight down from 6", x.cost(8, 6, 1, 999, 0, 10), (6 + 5 + 4 + 3 + 2 + 1) * 100_000_000L);
    }

    /** "Each block of sheets costs spoil times how far it is off, at its begin; ahead of it the press may be halted" */
    private static void offAtItsBegin() {
        FourInks x = new FourInks();
        Checks.due("what comes behind the last block costs nothing", x.cost(1, 0, 999, 999, 10, 0), 0);
        Checks.due("it may be halted ahead of the first", x.cost(1, 6, 10, 1, 10, 0), 10);
        Checks.due("and goes on from 0 then", x.cost(2, 6, 10, 5, 10, 0), 500 + 500);
        Checks.due("halted ahead of each", x.cost(3, 6, 10, 5, 10, 0), 15_000);
        Checks.due("a halt ahead of the second alone", x.cost(2, 0, 10, 5, 10, 0), 500);
        Checks.due("no halt is needed", x.cost(2, 0, 10, 0, 10, 0), 0);
    }

    /** "the least mean, times 10 to the n" */
    private static void timesTen() {
        FourInks x = new FourInks();
        long power = 1;
        for (int n = 1; n <= 8; n++) {
            power *= 10;
            Checks.due("halted once for " + n, x.cost(n, 6, 999, 7, 0, 0), 7 * power);
            Checks.due("going on for " + n, x.cost(n, 1, 1, 999, 0, 0), n * power);
        }
        // ahead of the third block it is 2 off by 1, 1 off by 18, 0 off by 81 of 100: the least parts of a mean are kept
        Checks.due("small chances", x.cost(3, 0, 1, 999, 1, 0), 100 + 18 * 10 + 2 * 10);
    }

    /** "the RULE: whether to halt ahead of the first of n blocks (only if it costs less)." */
    private static void onlyIfItCostsLess() {
        FourInks x = new FourInks();
        for (int n = 1; n <= 8; n++) {
            Checks.due("at a lower price, " + n, x.halt(n, 1, 10, 10 * n - 1, 0, 0), 1);
            Checks.due("at the same price, " + n, x.halt(n, 1, 10, 10 * n, 0, 0), 0);
            Checks.due("at a higher price, " + n, x.halt(n, 1, 10, 10 * n + 1, 0, 0), 0);
        }
        Checks.due("for nothing, though it isn't off", x.halt(8, 0, 999, 0, 10, 0), 0);
        Checks.due("for nothing, as nothing is spoilt", x.halt(8, 6, 0, 0, 10, 0), 0);
        Checks.due("for nothing", x.halt(1, 1, 1, 0, 0, 0), 1);
    }

    // ---- TISSUE

    private static FourInks bed(String greys, int step, int target, int t, int due) {
        FourInks x = Checks.taped(greys);
        String call = "tissue(" + step + ", " + target + ", " + t + ") of " + greys;
        Checks.due(call, x.tissue(step, target, t), due);
        Checks.due("the tape behind " + call, x.count(4), 0);
        return x;
    }

    private static void layers(FourInks x, int... row) {
        int sum = 0;
        for (int k = 0; k < row.length; k++) {
            Checks.due("layers " + k, x.layers(k), row[k]);
            sum += row[k];
        }
        Checks.due("layers in all", x.layers(-1), sum);
        Checks.due("layers " + row.length, x.layers(row.length), -1);
    }

    /** "zones in a row with greys told on THE TAPE (N, 1 .. 20 of them, each 0 .. 99)" */
    private static void zonesOfARow() {
        layers(bed("5", 1, 5, 0, 0), 0);
        int[] twenty = new int[20];
        layers(bed("5 ".repeat(20), 1, 5, 0, 0), twenty);
        twenty[19] = 1;
        layers(bed("5 ".repeat(19) + "4", 1, 5, 0, 1), twenty);
        bed("5 ".repeat(21), 1, 5, 0, -1);
        layers(bed("0 99", 20, 99, 20, 4), 4, 0);
        layers(bed("0000 0099", 20, 99, 20, 4), 4, 0);
        bed("100", 20, 100, 20, -1);
        bed("0 100", 20, 100, 20, -1);
        bed("100 0", 20, 100, 20, -1);
        bed("9999", 20, 120, 20, -1);
    }

    /** "NONE: it is no such row" */
    private static void noSuchRow() {
        String[] wrong = {"", " ", "\n", "-", "-1", "-0", "1 -1", "1;", ";", "a", "1 a", "1,1", "00001", "1 00001", "4294967297"};
        for (String row : wrong) {
            bed(row, 1, 1, 1, -1);
        }
        bed("5 ".repeat(20) + ";", 1, 5, 0, -1);
        bed("5 ".repeat(20) + "-", 1, 5, 0, -1);
    }

    /** "step (1 .. 20)", "target (0 .. 120)", "t (0 .. 20)": RANGE. */
    private static void tissueAtItsEnds() {
        Checks.ends("tissue step", 1, 5, 20, 1, -2, step -> Checks.taped("0").tissue(step, 20, step == 20 ? 0 : 15));
        Checks.ends("tissue target", 0, 0, 120, 6, -2, target -> Checks.taped("0").tissue(20, target, 0));
        Checks.ends("tissue t", 0, 1, 20, 0, -2, t -> Checks.taped("0").tissue(20, 20, t));
        Checks.ends("no row and its step", 1, -1, 20, -1, -2, step -> Checks.taped("x").tissue(step, 20, 20));
        int[][] wrong = {{0, 10, 0}, {21, 10, 0}, {1, -1, 0}, {1, 121, 0}, {1, 10, -1}, {1, 10, 21}};
        for (int[] w : wrong) {
            String call = "tissue " + w[0] + " " + w[1] + " " + w[2];
            Twin.emptied(call, RunEdgeTest::busyWithGreys, -2, x -> x.tissue(w[0], w[1], w[2]));
        }
    }

    private static FourInks busyWithGreys() {
        FourInks x = Twin.busy();
        Checks.put(x, "10 10");
        return x;
    }

    /** "It must come to target .. less slack t .. at least, and target and t at most" */
    private static void atLeastAndAtMost() {
        bed("25", 20, 30, 5, 0);
        bed("24", 20, 30, 5, -1);
        bed("35", 20, 30, 5, 0);
        bed("36", 20, 30, 5, -1);
        layers(bed("5", 10, 30, 5, 2), 2);
        bed("5", 10, 30, 4, -1);
        layers(bed("15", 20, 30, 5, 1), 1);
        bed("16", 20, 30, 5, -1);
        layers(bed("5", 20, 30, 5, 1), 1);
        bed("4", 20, 30, 5, -1);
        // target less t below 0, target and t above 99
        bed("0", 20, 0, 20, 0);
        bed("20", 20, 0, 20, 0);
        bed("21", 20, 0, 20, -1);
        layers(bed("99", 20, 120, 20, 1), 1);
        layers(bed("99", 1, 120, 20, 1), 1);
        layers(bed("99", 1, 120, 13, 8), 8);
        bed("99", 1, 120, 11, -1);
    }

    /** "with 0 .. 9 layers" */
    private static void mostLayers() {
        layers(bed("0", 1, 9, 0, 9), 9);
        bed("0", 1, 10, 0, -1);
        layers(bed("0", 1, 10, 1, 9), 9);
        layers(bed("1", 1, 1, 0, 0), 0);
        bed("2", 1, 1, 0, -1);
        layers(bed("99", 2, 117, 0, 9), 9);
        bed("99", 2, 119, 0, -1);
        layers(bed("0 9 0 9", 1, 9, 0, 18), 9, 0, 9, 0);
        int[] row = new int[20];
        for (int k = 0; k < 20; k += 2) {
            row[k] = 9;
        }
        layers(bed("0 9 ".repeat(10), 1, 9, 0, 90), row);
        Arrays.fill(row, 9);
        layers(bed("0 ".repeat(20), 1, 9, 0, 9), row);
    }

    /** "FEWEST SCRAPS with which that is so; then the least sum of layers": "one layer over zones side by side". */
    private static void fewestScraps() {
        layers(bed("0 0 0", 10, 20, 0, 2), 2, 2, 2);
        layers(bed("0 10 20", 10, 20, 0, 2), 2, 1, 0);
        layers(bed("20 10 0", 10, 20, 0, 2), 0, 1, 2);
        layers(bed("10 20 10", 10, 20, 0, 2), 1, 0, 1);
        // more layers than needed in the middle, since that saves a SCRAP
        layers(bed("0 10 0", 10, 20, 10, 1), 1, 1, 1);
        layers(bed("0 20 0", 10, 20, 10, 1), 1, 1, 1);
        // but no more than save one
        layers(bed("0 20 20", 10, 20, 10, 1), 1, 0, 0);
        layers(bed("20 20 0", 10, 20, 10, 1), 0, 0, 1);
        layers(bed("20 0 20 0 20", 10, 20, 10, 1), 0, 1, 1, 1, 0);
        layers(bed("20 0 31 0 20", 10, 20, 11, 2), 0, 1, 0, 1, 0);
        layers(bed("0 12 0", 10, 30, 8, 4), 3, 2, 3);
    }

    /** "None, if some zone can't be." */
    private static void noneIfSomeZoneCantBe() {
        bed("9 5 5", 1, 5, 0, -1);
        bed("5 9 5", 1, 5, 0, -1);
        bed("5 5 9", 1, 5, 0, -1);
        bed("5 ".repeat(19) + "9", 1, 5, 0, -1);
        Twin.emptied("tissue of zones that can't be", RunEdgeTest::busyWithGreys, -1, x -> x.tissue(1, 5, 0));
    }

    /** layers(): "k NONE: their sum. NONE when there is none such." */
    private static void layersAtItsEnds() {
        Checks.beyond("layers ahead of tissue", -1, -1, -1, new FourInks()::layers);
        Checks.due("sum ahead of tissue", new FourInks().layers(-1), -1);
        FourInks x = bed("0 1 2", 1, 2, 0, 2);
        Checks.ends("layers", 0, 2, 2, 0, -1, k -> k == -1 ? -1 : x.layers(k));
        Checks.due("their sum", x.layers(-1), 3);
        Checks.due("layers -2", x.layers(-2), -1);
        FourInks none = bed("5 5", 1, 5, 0, 0);
        Checks.due("a sum of 0", none.layers(-1), 0);
        FourInks most = bed("0 ".repeat(20), 1, 9, 0, 9);
        Checks.due("the greatest sum", most.layers(-1), 180);
        Checks.due("the last zone", most.layers(19), 9);
        Checks.due("none behind it", most.layers(20), -1);
    }

    /** "by the latest tissue() that told a number" */
    private static void latestTissue() {
        FourInks x = bed("0 0 1", 1, 1, 0, 1);
        Checks.put(x, "9");
        Checks.due("a zone that can't be", x.tissue(1, 1, 0), -1);
        layers(x, 1, 1, 0);
        Checks.put(x, "x");
        Checks.due("no row", x.tissue(1, 1, 0), -1);
        layers(x, 1, 1, 0);
        Checks.put(x, "3 3 3 3");
        Checks.due("out of its RANGE", x.tissue(21, 1, 0), -2);
        layers(x, 1, 1, 0);
        Checks.put(x, "3 3 3 3");
        Checks.due("causes read the tape", x.causes(0), 1);
        layers(x, 1, 1, 0);
        Checks.put(x, "4 3");
        Checks.due("another one", x.tissue(1, 5, 0), 2);
        layers(x, 1, 2);
        Checks.put(x, "5");
        Checks.due("one without scraps", x.tissue(1, 5, 0), 0);
        layers(x, 0);
    }
}
