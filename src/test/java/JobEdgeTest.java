import java.util.function.ToIntFunction;

/** The edges of promises 4 to 7 and of a JOB's text in Terms I; each method stands for the words ahead of it. */
public final class JobEdgeTest {
    private static final String[] INKS = {"blue", "red", "yellow", "black"};

    public static void main(String[] args) {
        blanks();
        words();
        numbers();
        signs();
        inks();
        emptyText();
        sheetBounds();
        markBounds();
        plainBounds();
        screwBounds();
        boxBounds();
        screenBounds();
        liesBounds();
        atTheEnd();
        noTextGoesOn();
        firstComeTo();
        leastKind();
        twice();
        liesTwice();
        room();
        screwRoom();
        late();
        jobStays();
        gone();
        nothingOfTheJobAhead();
        faultOfTheLatest();
        toldAtItsEnds();
        screwAtItsEnds();
        Checks.finish();
    }

    // ---- TOKENS

    /** "TOKENS with any blanks (32, 10) between" */
    private static void blanks() {
        FourInks x = Checks.taken("\n \nbox \n red\n1 2  3\n\n4 ; \n", 1);
        Checks.due("its row", x.shape(1, 0, 2), 14);
        Checks.due("none between", Checks.taken("box red1 2 3 4;over 2;", 2).shape(1, 0, 5), 14);
        for (int other = 0; other < 256; other++) {
            boolean blank = other == 32 || other == 10;
            boolean token = other == ';' || other == '-' || isDigit(other) || isLetter(other);
            if (!blank && !token) {
                Checks.refused("over" + (char) other + "9;", 1, 4);
                Checks.refused("over 9" + (char) other + ";", 1, 6);
                Checks.refused((char) other + "over 9;", 1, 0);
            }
        }
    }

    private static boolean isDigit(int c) {
        return c >= '0' && c <= '9';
    }

    private static boolean isLetter(int c) {
        return c >= 'a' && c <= 'z';
    }

    /** "WORDS (small letters, as many as there are, 8 at most)" */
    private static void words() {
        for (int letter = 'a'; letter <= 'z'; letter++) {
            Checks.refused("over" + (char) letter + " 9;", 1, 0);
            Checks.refused("box red" + (char) letter + " 1 1 1 1;", 1, 4);
            Checks.refused("over 9" + (char) letter + ";", 1, 6);
        }
        Checks.refused("Over 9;", 1, 0);
        Checks.refused("oveR 9;", 1, 0);
        Checks.refused("overover 9;", 1, 0);
        Checks.refused("overoverr 9;", 1, 0);
        Checks.refused("box redredred 1 1 1 1;", 1, 4);
        Checks.refused("ove r 9;", 1, 0);
        Checks.refused("ov", 1, 0);
        Checks.refused("box re", 1, 4);
    }

    /** "N (digits, as many as there are, 4 at most)" */
    private static void numbers() {
        Checks.due("one digit", Checks.taken("over 0;", 1).told(7), 0);
        Checks.due("two digits", Checks.taken("over 90;", 1).told(7), 90);
        Checks.due("three digits", Checks.taken("over 090;", 1).told(7), 90);
        Checks.due("four digits", Checks.taken("over 0009;", 1).told(7), 9);
        Checks.refused("over 00009;", 1, 5);
        Checks.refused("over 9999;", 2, 5);
        Checks.refused("over 10000;", 1, 5);
        // as an int of 32 bits this would be 1 again
        Checks.refused("over 4294967297;", 1, 5);
        Checks.refused("mark 1 00001;", 1, 7);
        for (int digit = '0'; digit <= '9'; digit++) {
            Checks.due("digit " + (char) digit, Checks.taken("white 3" + (char) digit + ";", 1).told(6), 30 + digit - '0');
        }
    }

    /** "; -", and V = ["-"] N alone takes the sign. */
    private static void signs() {
        FourInks x = Checks.taken("screw red -0 - 20 -\n\n7;", 1);
        Checks.due("-0", x.screw(1, 0, 0), 0);
        Checks.due("-20", x.screw(1, 0, 1), -20);
        Checks.due("-7", x.screw(1, 0, 2), -7);
        FourInks tight = Checks.taken("screw red-1-2-3;", 1);
        Checks.due("no blanks are needed", tight.screw(1, 0, 2), -3);
        Checks.refused("screw red --1 1 1;", 1, 11);
        Checks.refused("screw red 1- 1 1", 1, 16);
        Checks.refused("screw red - blue", 1, 12);
        Checks.refused("screw red -;", 1, 11);
        Checks.refused("screw red -", 1, 11);
        Checks.refused("screw -red 1 1 1;", 1, 6);
        String[] plain = {"sheet -", "sheet 10 -", "mark -", "mark 1 -", "slack -", "turns -", "box red -", "box red 1 -",
            "box red 1 1 -", "box red 1 1 1 -", "white -", "over -", "screen -", "screen 1 -", "lies red blue -"};
        for (String text : plain) {
            Checks.refused(text + "10 10 10 10;", 1, text.length() - 1);
        }
    }

    /** "INKS: blue 0, red 1, yellow 2, black 3." */
    private static void inks() {
        for (int ink = 0; ink < 4; ink++) {
            FourInks x = Checks.taken("box " + INKS[ink] + " 3 3 1 1; screw " + INKS[ink] + " 5 6 7;", 2);
            for (int other = 0; other < 4; other++) {
                Checks.due("shape of " + other, x.shape(other, 0, 3), ink == other ? 8 : 0);
                Checks.due("screws of " + other, x.told(10 + other), ink == other ? 1 : 0);
                Checks.due("screw of " + other, x.screw(other, 0, 2), ink == other ? 7 : -99);
            }
        }
    }

    /** "A JOB is a text = {clause ";"}": also none. */
    private static void emptyText() {
        Checks.taken("", 0);
        Checks.taken(" ", 0);
        Checks.taken("\n \n", 0);
        Checks.refused(";", 1, 0);
        Checks.refused(" ;", 1, 1);
        Checks.refused("over 1;;", 1, 7);
    }

    // ---- bounds

    /** The number at # may be least .. most, and is told then; 4 figures at most. */
    private static void bounds(String text, int least, int most, ToIntFunction<FourInks> told) {
        int place = text.indexOf('#');
        int clauses = text.length() - text.replace(";", "").length();
        int[] good = {least, most};
        for (int number : good) {
            String plain = text.replace("#", "" + number);
            Checks.due("told by " + plain, told.applyAsInt(Checks.taken(plain, clauses)), number);
            String whole = text.replace("#", String.format("%04d", number));
            Checks.due("told by " + whole, told.applyAsInt(Checks.taken(whole, clauses)), number);
            Checks.refused(text.replace("#", String.format("%05d", number)), 1, place);
        }
        int[] wrong = {least - 1, most + 1, 9999};
        for (int number : wrong) {
            if (number >= 0) {
                Checks.refused(text.replace("#", "" + number), 2, place);
            }
        }
        Checks.refused(text.replace("#", "red"), 1, place);
        Checks.refused(text.replace("#", ";"), 1, place);
        Checks.refused(text.substring(0, place), 1, place);
    }

    /** "sheet: width and height, 10 .. 200 each (100, 100)" */
    private static void sheetBounds() {
        bounds("sheet # 50;", 10, 200, x -> x.told(0));
        bounds("sheet 50 #;", 10, 200, x -> x.told(1));
        FourInks x = Checks.taken("sheet 10 200;", 1);
        Checks.due("width", x.told(0), 10);
        Checks.due("height", x.told(1), 200);
    }

    /** "mark: x 0 .. width, y 0 .. height" */
    private static void markBounds() {
        bounds("mark # 5;", 0, 100, x -> x.told(40));
        bounds("mark 5 #;", 0, 100, x -> x.told(50));
        bounds("sheet 10 200; mark # 5;", 0, 10, x -> x.told(40));
        bounds("sheet 10 200; mark 5 #;", 0, 200, x -> x.told(50));
        bounds("sheet 200 10; mark # 5;", 0, 200, x -> x.told(40));
        bounds("sheet 200 10; mark 5 #;", 0, 10, x -> x.told(50));
        bounds("mark 1 2; mark # 4;", 0, 100, x -> x.told(41));
    }

    /** "slack 0 .. 9 (1)", "turns 0 .. 4 (2)", "white, over 0 .. 99 (3, 1)" */
    private static void plainBounds() {
        bounds("slack #;", 0, 9, x -> x.told(3));
        bounds("turns #;", 0, 4, x -> x.told(4));
        bounds("white #;", 0, 99, x -> x.told(6));
        bounds("over #;", 0, 99, x -> x.told(7));
    }

    /** "screw: across, up, turn for one turn of it, each 0 .. 20 without its sign" */
    private static void screwBounds() {
        bounds("screw blue # 1 2;", 0, 20, x -> x.screw(0, 0, 0));
        bounds("screw red 1 # 2;", 0, 20, x -> x.screw(1, 0, 1));
        bounds("screw yellow 1 2 #;", 0, 20, x -> x.screw(2, 0, 2));
        bounds("screw black -# 1 2;", 0, 20, x -> -x.screw(3, 0, 0));
        bounds("screw black 1 -# 2;", 0, 20, x -> -x.screw(3, 0, 1));
        bounds("screw black 1 2 -#;", 0, 20, x -> -x.screw(3, 0, 2));
        bounds("screw black 1 2 3; screw black 1 2 #;", 0, 20, x -> x.screw(3, 1, 2));
    }

    /** "box: x, y 0 .. 15, width, height 1 .. 16" */
    private static void boxBounds() {
        bounds("box red # 3 1 1;", 0, 15, x -> Integer.numberOfTrailingZeros(x.shape(1, 0, 3)));
        bounds("box red 3 # 1 1;", 0, 15, JobEdgeTest::firstRow);
        bounds("box red 0 3 # 1;", 1, 16, x -> Integer.bitCount(x.shape(1, 0, 3)));
        bounds("box red 3 0 1 #;", 1, 16, JobEdgeTest::rows);
    }

    private static int firstRow(FourInks x) {
        int y = 0;
        while (y < 16 && x.shape(1, 0, y) == 0) {
            y++;
        }
        return y;
    }

    private static int rows(FourInks x) {
        int rows = 0;
        for (int y = 0; y < 16; y++) {
            rows += x.shape(1, 0, y) == 8 ? 1 : 0;
        }
        return rows;
    }

    /** "screen 1 .. 30 each" */
    private static void screenBounds() {
        bounds("screen # 5;", 1, 30, x -> x.told(60));
        bounds("screen 5 #;", 1, 30, x -> x.told(70));
        bounds("screen 1 2; screen 3 #;", 1, 30, x -> x.told(71));
    }

    /** "lies: how much of the second INK stays on the first, 0 .. 100 (100), of two unlike INKS." */
    private static void liesBounds() {
        for (int pair = 0; pair < 16; pair++) {
            int what = 20 + pair;
            String text = "lies " + INKS[pair / 4] + " " + INKS[pair % 4] + " #;";
            if (pair / 4 == pair % 4) {
                Checks.refused(text.replace("#", "5"), 3, text.indexOf('#') - 1 - INKS[pair % 4].length());
            } else {
                bounds(text, 0, 100, x -> x.told(what));
                Checks.due("the other way round", Checks.taken(text.replace("#", "0"), 1).told(otherWay(pair)), 100);
            }
        }
    }

    private static int otherWay(int pair) {
        return 20 + pair % 4 * 4 + pair / 4;
    }

    // ---- FAULTS

    /** "PLACE (a TOKEN's first byte; the text's length at its end)" */
    private static void atTheEnd() {
        String[] begun = {"sheet", "sheet 10", "sheet 10 10", "mark", "mark 1", "mark 1 1", "slack", "slack 1", "screw",
            "screw red", "screw red 1", "screw red 1 1", "screw red 1 1 1", "screw red -", "turns", "turns 1", "box", "box red",
            "box red 1", "box red 1 1", "box red 1 1 1", "box red 1 1 1 1", "white", "white 1", "over", "over 1", "screen",
            "screen 1", "screen 1 1", "lies", "lies red", "lies red blue", "lies red blue 1"};
        for (String text : begun) {
            Checks.refused(text, 1, text.length());
            Checks.refused(text + " \n ", 1, text.length() + 3);
            Checks.refused(text + " !", 1, text.length() + 1);
            Checks.refused(text + "\nabcdefghi", 1, text.length() + 1);
            Checks.refused("over 1;" + text + " !", text.startsWith("over") ? 3 : 1,
                text.startsWith("over") ? 7 : text.length() + 8);
        }
    }

    /** "SYNTAX: a TOKEN (or byte that is none, a run that is too long) with which no text goes on." */
    private static void noTextGoesOn() {
        String[] first = {"0", "-", ";", "red", "blue", "a", "!", "00000", "abcdefghi"};
        for (String token : first) {
            Checks.refused(token, 1, 0);
            Checks.refused("over 1;\n" + token, 1, 8);
        }
        String[] behindInk = {"screw", "box", "lies", "lies red"};
        for (String text : behindInk) {
            Checks.refused(text + " 1", 1, text.length() + 1);
            Checks.refused(text + " box", 1, text.length() + 1);
            Checks.refused(text + " ;", 1, text.length() + 1);
            Checks.refused(text + " -", 1, text.length() + 1);
        }
        String[] whole = {"sheet 10 10", "mark 1 1", "slack 1", "screw red 1 1 1", "turns 1", "box red 1 1 1 1", "white 1",
            "over 1", "screen 1 1", "lies red blue 1"};
        for (String text : whole) {
            Checks.refused(text + " 1;", 1, text.length() + 1);
            Checks.refused(text + " -;", 1, text.length() + 1);
            Checks.refused(text + " red;", 1, text.length() + 1);
            Checks.refused(text + " over 1;", 1, text.length() + 1);
        }
    }

    /** "the first come to as TOKENS are read one by one" */
    private static void firstComeTo() {
        Checks.refused("over 100 !", 2, 5);
        Checks.refused("over ! 100", 1, 5);
        Checks.refused("over 1; over 100;", 3, 8);
        Checks.refused("over 100; over 1;", 2, 5);
        Checks.refused("screw red 21 21 99;", 2, 10);
        Checks.refused("mark 101 101;", 2, 5);
        Checks.refused("sheet 9 9;", 2, 6);
        Checks.refused("box red 16 16 0 0;", 2, 8);
        Checks.refused("screen 0 0;", 2, 7);
        Checks.refused("lies red red 101;", 3, 9);
        Checks.refused("lies red green 101;", 1, 9);
    }

    /** "of one TOKEN the least KIND" */
    private static void leastKind() {
        Checks.refused("over 1; over 00001;", 3, 8);
        Checks.refused("over 99999;", 1, 5);
        Checks.refused("sheet 10 10; mark 1 1; sheet 10 10;", 3, 23);
        Checks.refused("mark 1 1; sheet 10 10;", 5, 10);
        Checks.refused("mark 1 1;".repeat(8) + "sheet 10 10;", 5, 72);
        Checks.refused("sheet 10 10;" + "mark 1 1;".repeat(8) + "sheet 10 10;", 3, 84);
    }

    /** "TWICE: sheet, slack, turns, white, over again" */
    private static void twice() {
        String[] once = {"sheet 10 10;", "slack 1;", "turns 2;", "white 3;", "over 1;"};
        for (String clause : once) {
            Checks.refused(clause + clause, 3, clause.length());
            Checks.refused(clause + "box red 1 1 1 1;" + clause, 3, clause.length() + 16);
            Checks.refused(clause + clause.substring(0, clause.indexOf(' ')), 3, clause.length());
            for (String other : once) {
                if (!other.equals(clause)) {
                    Checks.taken(clause + other, 2);
                }
            }
        }
        String[] often = {"mark 1 1;", "screw red 1 1 1;", "box red 1 1 1 1;", "screen 1 1;"};
        for (String clause : often) {
            Checks.taken(clause + clause, 2);
        }
    }

    /** "the second INK of lies that is the first, or of two that were told so." */
    private static void liesTwice() {
        for (String on : INKS) {
            for (String ink : INKS) {
                String pair = "lies " + on + " " + ink;
                if (on.equals(ink)) {
                    Checks.refused(pair, 3, 6 + on.length());
                } else {
                    int place = (pair + " 7;").length() + 6 + on.length();
                    Checks.refused(pair + " 7;" + pair + " 7;", 3, place);
                    Checks.refused(pair + " 7;" + pair, 3, place);
                    Checks.taken(pair + " 7; lies " + ink + " " + on + " 7;", 2);
                }
            }
        }
    }

    /** "ROOM: a mark, .. box, screen too many (at its first WORD)": "at most 8" each. */
    private static void room() {
        String[] eight = {"mark 1 1;", "box red 1 1 1 1;", "screen 1 1;"};
        int[] told = {2, 5, 8};
        for (int i = 0; i < 3; i++) {
            String full = eight[i].repeat(8);
            Checks.due("eight of " + eight[i], Checks.taken(full, 8).told(told[i]), 8);
            Checks.refused(full + eight[i], 4, full.length());
            Checks.refused(full + "\n" + eight[i].substring(0, eight[i].indexOf(' ')), 4, full.length() + 1);
            Checks.refused(full + eight[i].substring(0, eight[i].indexOf(' ')) + " 999;", 4, full.length());
        }
        Checks.taken("mark 1 1;box red 1 1 1 1;screen 1 1;".repeat(8), 24);
        String boxes = "box blue 1 1 1 1;box red 1 1 1 1;box yellow 1 1 1 1;box black 1 1 1 1;".repeat(2);
        Checks.taken(boxes, 8);
        Checks.refused(boxes + "box blue 1 1 1 1;", 4, boxes.length());
    }

    /** "screw (at its INK)": "at most 3 an INK". */
    private static void screwRoom() {
        String all = "";
        for (String ink : INKS) {
            String three = ("screw " + ink + " 1 1 1;").repeat(3);
            Checks.taken(three, 3);
            Checks.refused(three + "screw " + ink + " 1 1 1;", 4, three.length() + 6);
            Checks.refused(three + "screw " + ink, 4, three.length() + 6);
            Checks.refused(three + "screw " + ink + " 99", 4, three.length() + 6);
            Checks.refused(three + "screw ", 1, three.length() + 6);
            Checks.refused(three + "screw x", 1, three.length() + 6);
            all += three;
        }
        FourInks x = Checks.taken(all, 12);
        for (int ink = 0; ink < 4; ink++) {
            Checks.due("screws of " + ink, x.told(10 + ink), 3);
            Checks.refused(all + "screw " + INKS[ink] + " 1 1 1;", 4, all.length() + 6);
        }
    }

    /** "LATE: sheet behind a mark.": "ahead of all marks" alone, not of others. */
    private static void late() {
        Checks.refused("mark 1 1; sheet", 5, 10);
        Checks.refused("mark 1 1; over 1; sheet 200 200;", 5, 18);
        Checks.taken("over 1; slack 1; turns 1; white 1; box red 1 1 1 1; screen 1 1; screw red 1 1 1; lies red blue 1;"
            + "sheet 200 200; mark 200 200;", 10);
    }

    // ---- the calls

    /** "NONE with a FAULT (the JOB stays)." */
    private static void jobStays() {
        Twin.faulty("over 1", Twin::busy, 1, 6);
        Twin.faulty("sheet 10 10; mark 1 1; slack 0; turns 0; white 0; over 0; screw blue 9 9 9; screw red 9 9 9;"
            + "box blue 0 0 16 16; box yellow 0 0 9 9; screen 30 30; screen 1 1; lies blue red 1; lies red blue 101;",
            Twin::busy, 2, 189);
        Twin.faulty("over 1; over 2;", Twin::busy, 3, 8);
        Twin.faulty("mark 1 1;".repeat(9), Twin::busy, 4, 72);
        Twin.faulty("mark 1 1; sheet 10 10;", Twin::full, 5, 10);
    }

    /** "Without one READINGS are none then, the latest STEP of telling is 0, what mend(), best(), tissue() told is gone." */
    private static void gone() {
        FourInks x = Twin.full();
        Checks.put(x, Twin.JOB);
        Checks.due("the same job again", x.job(), 21);
        Checks.due("READINGS", x.count(1), 0);
        Checks.due("puttings RIGHT", x.count(2), 0);
        Checks.due("fit", x.fit(0, 999, 0), 68590);
        for (int k = 0; k < 3; k++) {
            Checks.due("turned " + k, x.turned(k), -99);
        }
        Checks.due("k", x.spread(0), -99);
        Checks.due("l", x.spread(1), -99);
        Checks.due("layers", x.layers(0), -1);
        Checks.due("sum of layers", x.layers(-1), -1);
        Checks.due("the PROOF stays", x.count(3), 1);
        Checks.due("and is as it was", x.held(12, 12, 12, 12), 0);
        Checks.due("none to put right", x.right(0, 0, 0, 0), -2);
        for (int k = 0; k < 24; k++) {
            Checks.due("a READING at STEP 0", x.read(0, 0, 0, 1, 1), k);
        }
        for (int times = 1; times <= 20; times++) {
            Checks.due("put RIGHT at STEP 0", x.right(0, 23, 0, 0), times);
        }
        Checks.due("FULL again", x.read(0, 0, 0, 1, 1), -3);
        Checks.due("FULL of puttings again", x.right(0, 0, 0, 0), -3);
    }

    /** A JOB without a clause has what isn't told, whatever the one ahead of it told. */
    private static void nothingOfTheJobAhead() {
        FourInks x = Twin.busy();
        Checks.put(x, "lies red blue 5;");
        Checks.due("a second job", x.job(), 1);
        Checks.put(x, "lies red blue 6;");
        Checks.due("a third one", x.job(), 1);
        Checks.due("it may tell the pair that the second told", x.told(24), 6);
        Checks.put(x, "");
        Checks.due("an empty job", x.job(), 0);
        Checks.due("its clauses", x.count(0), 0);
        FourInks fresh = new FourInks();
        for (int what = 0; what < 80; what++) {
            Checks.due("told " + what + " by an empty job", x.told(what), fresh.told(what));
        }
        for (int ink = 0; ink < 4; ink++) {
            Checks.due("no screw of " + ink, x.screw(ink, 0, 0), -99);
            for (int y = 0; y < 16; y++) {
                Checks.due("no shape of " + ink, x.shape(ink, 0, y), 0);
            }
        }
        Checks.due("no mark to read at", x.read(0, 0, 0, 0, 0), -2);
        // each clause that may come once, and all that has room, may come again in the next one
        for (int job = 0; job < 3; job++) {
            Checks.put(x, "sheet 10 10;slack 1;turns 1;white 1;over 1;" + "mark 1 1;".repeat(8));
            Checks.due("job " + job, x.job(), 13);
            Checks.put(x, "box red 1 1 1 1;screen 1 1;".repeat(8) + "screw red 1 1 1;".repeat(3));
            Checks.due("job " + job + " of others", x.job(), 19);
        }
    }

    /** "Of the latest job(), what 0: its FAULT's KIND, 0 without (and ahead of any), 1: its PLACE (NONE)." */
    private static void faultOfTheLatest() {
        FourInks x = Checks.taped("over 100;");
        Checks.due("kind ahead of any", x.fault(0), 0);
        Checks.due("place ahead of any", x.fault(1), -1);
        x.job();
        Checks.ends("fault", 0, 2, 1, 5, -1, x::fault);
        Checks.put(x, "!");
        x.causes(0);
        Checks.due("a run is no job", x.fault(0), 2);
        Checks.put(x, "over 9; !");
        x.job();
        Checks.ends("the next fault", 0, 1, 1, 8, -1, x::fault);
        Checks.put(x, "over 9;");
        x.job();
        Checks.ends("no fault", 0, 0, 1, -1, -1, x::fault);
    }

    /** told(): "NONE for others." */
    private static void toldAtItsEnds() {
        StringBuilder text = new StringBuilder("sheet 200 190;slack 9;turns 4;white 98;over 97;box red 1 1 1 1;");
        for (int k = 0; k < 8; k++) {
            text.append("mark ").append(k + 150).append(" ").append(k + 160).append(";");
            text.append("screen ").append(k + 1).append(" ").append(k + 11).append(";");
        }
        text.append("screw blue 1 1 1;screw black 1 1 1;screw black 1 1 1;lies blue red 41;lies black yellow 42;");
        FourInks x = Checks.told(text.toString());
        int[] plain = {200, 190, 8, 9, 4, 1, 98, 97, 8};
        for (int what = -20; what <= 120; what++) {
            int due = -1;
            if (what >= 0 && what < plain.length) {
                due = plain[what];
            } else if (what >= 10 && what <= 13) {
                due = what == 10 ? 1 : what == 13 ? 2 : 0;
            } else if (what >= 20 && what <= 35 && (what - 20) % 5 != 0) {
                due = what == 21 ? 41 : what == 34 ? 42 : 100;
            } else if (what >= 40 && what < 80 && what % 10 < 8) {
                int[] first = {150, 160, 1, 11};
                due = first[what / 10 - 4] + what % 10;
            }
            Checks.due("told " + what, x.told(what), due);
        }
        Checks.beyond("told", 0, 79, -1, x::told);
    }

    /** screw(): "Of SCREW k of an INK, what 0: across, 1: up, 2: turn; RANGE (-99)." */
    private static void screwAtItsEnds() {
        FourInks x = Checks.told("screw blue 1 2 3; screw blue -4 -5 -6; screw blue 7 8 9; screw black 10 11 12;");
        Checks.ends("screw of ink", 0, 1, 3, 10, -99, ink -> x.screw(ink, 0, 0));
        Checks.due("red has none", x.screw(1, 0, 0), -99);
        Checks.due("yellow has none", x.screw(2, 0, 0), -99);
        Checks.ends("screw k", 0, 2, 2, 8, -99, k -> x.screw(0, k, 1));
        Checks.ends("screw k of black", 0, 11, 0, 11, -99, k -> x.screw(3, k, 1));
        Checks.ends("screw what", 0, -4, 2, -6, -99, what -> x.screw(0, 1, what));
    }
}
