/** The edges of promises 1 to 3 and of THE TAPE in Terms I; each method stands for the sentence ahead of it. */
public final class TapeEdgeTest {
    private static final int BLANKS = 0x20202020;

    public static void main(String[] args) {
        nothingIsTold();
        noProof();
        lastCall();
        highestByteFirst();
        behindTheTape();
        nineHundredBytes();
        fullTapeStays();
        fullTapeIsRead();
        endAtItsEnds();
        endOfAnEmptyTape();
        firstBytesAlone();
        eachReaderEmptiesIt();
        Checks.finish();
    }

    /** "A JOB of which nothing is told": what isn't told has the numbers in brackets. */
    private static void nothingIsTold() {
        FourInks x = new FourInks();
        for (int what = -1; what <= 90; what++) {
            Checks.due("new told " + what, x.told(what), untold(what));
        }
        for (int ink = 0; ink < 4; ink++) {
            Checks.due("new screw of " + ink, x.screw(ink, 0, 0), -99);
            Checks.due("new shape of " + ink, x.shape(ink, 2, 15), 0);
            Checks.due("new fit of " + ink, x.fit(ink, 0, 0), 68590);
        }
        for (int what = 0; what < 5; what++) {
            Checks.due("new count " + what, x.count(what), 0);
        }
        Checks.due("no FAULT ahead of any job", x.fault(0), 0);
        Checks.due("no PLACE ahead of any job", x.fault(1), -1);
        Checks.due("no MARK to read at", x.read(0, 0, 0, 0, 0), -2);
        Checks.due("no READING to put right", x.right(0, 0, 0, 0), -2);
        Checks.due("no SCREW was turned", x.turned(0), -99);
        Checks.due("no best k", x.spread(0), -99);
        Checks.due("no best l", x.spread(1), -99);
        Checks.due("no layers", x.layers(0), -1);
        Checks.due("no sum of layers", x.layers(-1), -1);
        Checks.due("no SCREENS that beat", x.beat(0, 0), -2);
        Checks.due("no SCREENS to set", x.setting(0), -1);
        Checks.due("all stays on all", x.order(0), 300);
    }

    private static int untold(int what) {
        int[] plain = {100, 100, 0, 1, 2, 0, 3, 1, 0};
        if (what >= 0 && what < plain.length) {
            return plain[what];
        }
        if (what >= 10 && what <= 13) {
            return 0;
        }
        boolean unlike = what >= 20 && what <= 35 && (what - 20) % 5 != 0;
        return unlike ? 100 : -1;
    }

    /** "no PROOF." */
    private static void noProof() {
        FourInks x = new FourInks();
        Checks.due("new held", x.held(12, 12, 12, 12), -4);
        Checks.due("new count of PROOFS", x.count(3), 0);
    }

    /** "An object is used for at most 512 calls after it has been made" */
    private static void lastCall() {
        FourInks x = new FourInks();
        for (int call = 1; call <= 510; call++) {
            Checks.due("call " + call, x.end(0), 0);
        }
        Checks.due("call 511", x.feed(0x6f766572, 0x2039393b, BLANKS, BLANKS, BLANKS), 20);
        Checks.due("call 512", x.job(), 1);
    }

    /** "Twenty bytes come behind THE TAPE, the highest of each int first": a byte that is no TOKEN tells its PLACE. */
    private static void highestByteFirst() {
        for (int place = 0; place < 20; place++) {
            FourInks x = new FourInks();
            int[] fed = {BLANKS, BLANKS, BLANKS, BLANKS, BLANKS};
            int shift = 24 - place % 4 * 8;
            fed[place / 4] = BLANKS & ~(255 << shift) | 0x80 + place << shift;
            Checks.due("feed with a byte at " + place, x.feed(fed[0], fed[1], fed[2], fed[3], fed[4]), 20);
            Checks.due("job with a byte at " + place, x.job(), -1);
            Checks.due("kind of the byte at " + place, x.fault(0), 1);
            Checks.due("place of the byte at " + place, x.fault(1), place);
        }
    }

    /** "behind THE TAPE": also where it was cut. */
    private static void behindTheTape() {
        FourInks x = new FourInks();
        Checks.due("first feed", x.feed(0x6f766572, 0x20392020, BLANKS, BLANKS, BLANKS), 20);
        Checks.due("cut amid a clause", x.end(6), 6);
        Checks.due("second feed", x.feed(0x393b2020, BLANKS, BLANKS, BLANKS, BLANKS), 26);
        Checks.due("job of both", x.job(), 1);
        Checks.due("figures of both", x.told(7), 99);
    }

    /** "how many it has; FULL when there would be more than 900." */
    private static void nineHundredBytes() {
        FourInks x = new FourInks();
        for (int feed = 1; feed <= 45; feed++) {
            Checks.due("feed " + feed, x.feed(BLANKS, BLANKS, BLANKS, BLANKS, BLANKS), 20 * feed);
        }
        Checks.due("feed at 900", x.feed(0, 0, 0, 0, 0), -3);
        for (int length = 899; length > 880; length--) {
            x.end(length);
            Checks.due("feed at " + length, x.feed(0, 0, 0, 0, 0), -3);
            Checks.due("bytes behind it", x.count(4), length);
        }
        Checks.due("end(880)", x.end(880), 880);
        Checks.due("feed at 880", x.feed(BLANKS, BLANKS, BLANKS, BLANKS, BLANKS), 900);
    }

    /** Of a feed that is FULL nothing comes to THE TAPE. */
    private static void fullTapeStays() {
        FourInks x = Checks.taped("over 9;" + " ".repeat(874));
        Checks.due("feed at 881", x.feed(-1, -1, -1, -1, -1), -3);
        Checks.due("bytes", x.count(4), 881);
        Checks.due("there is no byte more", x.end(882), -1);
        Checks.due("job of what was there", x.job(), 1);
        Checks.due("over", x.told(7), 9);
        Twin.refused("feed", TapeEdgeTest::longTape, -3, press -> press.feed(0, 0, 0, 0, 0));
    }

    private static FourInks longTape() {
        FourInks x = Twin.busy();
        Checks.put(x, " ".repeat(873) + "slack 7;");
        return x;
    }

    /** "THE TAPE has at most 900 bytes": all of them are read. */
    private static void fullTapeIsRead() {
        FourInks x = Checks.taken(" ".repeat(892) + "over 99;", 1);
        Checks.due("the last clause", x.told(7), 99);
        Checks.refused(" ".repeat(893) + "over 99", 1, 900);
        Checks.refused("\n".repeat(899) + "z", 1, 899);
        Checks.refused("\n".repeat(899) + "0", 1, 899);
        Checks.refused("over 9;" + " ".repeat(888) + "over", 3, 895);
        Checks.refused("a".repeat(900), 1, 0);
        Checks.refused("over " + "0".repeat(895), 1, 5);
        FourInks most = Checks.taken(mostClauses(), 5 + 3 * 8 + 4 * 3 + 4 * 3);
        Checks.due("the last pair is told", most.told(34), 1);
    }

    /** All clauses that there may be. */
    private static String mostClauses() {
        String[] inks = {"blue", "red", "yellow", "black"};
        StringBuilder text = new StringBuilder("sheet 10 10;slack 1;turns 1;white 1;over 1;");
        text.append("mark 1 1;".repeat(8)).append("screen 1 1;".repeat(8)).append("box red 1 1 1 1;".repeat(8));
        for (String ink : inks) {
            text.append(("screw " + ink + " 1 1 1;").repeat(3));
            for (String other : inks) {
                text.append(ink.equals(other) ? "" : "lies " + ink + " " + other + " 1;");
            }
        }
        return text.toString();
    }

    /** "n; NONE when it has not so many, or n is below 0." */
    private static void endAtItsEnds() {
        Checks.ends("end of 40", 0, 0, 40, 40, -1, n -> Checks.taped(" ".repeat(40)).end(n));
        Checks.ends("end of 900", 0, 0, 900, 900, -1, n -> Checks.taped(" ".repeat(900)).end(n));
        int[] wrong = {-1, 9, 900, Integer.MIN_VALUE, Integer.MAX_VALUE};
        for (int n : wrong) {
            Twin.refused("end " + n, Twin::busy, -1, x -> x.end(n));
        }
        Twin.unchanged("end of all", Twin::busy, x -> x.end(8));
    }

    private static void endOfAnEmptyTape() {
        FourInks x = new FourInks();
        Checks.ends("end of none", 0, 0, 0, 0, -1, n -> x.end(n));
    }

    /** "THE TAPE has its first n bytes alone" */
    private static void firstBytesAlone() {
        FourInks x = Checks.taped("over 9;slack 7;");
        Checks.due("end(7)", x.end(7), 7);
        Checks.due("bytes", x.count(4), 7);
        Checks.due("those behind are gone", x.end(8), -1);
        Checks.due("job", x.job(), 1);
        Checks.due("over", x.told(7), 9);
        Checks.due("slack", x.told(3), 1);
        FourInks none = Checks.taped("over");
        none.end(0);
        Checks.due("job of the first 0 bytes", none.job(), 0);
    }

    /** "each call that reads it empties it, whatever it tells." */
    private static void eachReaderEmptiesIt() {
        Twin.emptied("causes that tells a number", () -> busyWith("1 2"), 6, x -> x.causes(0));
        Twin.emptied("causes that is NONE", () -> busyWith("over"), -1, x -> x.causes(0));
        Twin.emptied("causes of an empty tape", () -> busyWith(""), -1, x -> x.causes(0));
        Twin.emptied("causes below its RANGE", () -> busyWith("1 2"), -2, x -> x.causes(-1));
        Twin.emptied("causes above its RANGE", () -> busyWith("1 2"), -2, x -> x.causes(100));
        Twin.emptied("tissue of no row", () -> busyWith("1;"), -1, x -> x.tissue(1, 1, 1));
        Twin.emptied("tissue of a zone that can't be", () -> busyWith("9"), -1, x -> x.tissue(1, 1, 1));
        Twin.emptied("tissue out of its RANGE", () -> busyWith("9"), -2, x -> x.tissue(0, 1, 1));
        FourInks x = busyWith("9");
        Checks.due("tissue that tells a number", x.tissue(1, 9, 0), 0);
        Checks.due("bytes behind tissue", x.count(4), 0);
        Checks.put(x, "over 9;");
        Checks.due("a job", x.job(), 1);
        Checks.due("bytes behind a job", x.count(4), 0);
        Checks.put(x, "over 9");
        Checks.due("a job with a FAULT", x.job(), -1);
        Checks.due("bytes behind it", x.count(4), 0);
    }

    private static FourInks busyWith(String tape) {
        FourInks x = Twin.busy();
        Checks.put(x, tape);
        return x;
    }
}
