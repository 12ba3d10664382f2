import java.util.Arrays;

/**
 * A press that prints four inks one behind the other.
 * The document DOC.md tells what each call answers; words in capitals are its terms.
 */
public final class FourInks {
    public static final int NONE = -1;
    public static final int RANGE = -2;
    public static final int FULL = -3;
    public static final int STATE = -4;

    private static final int INKS = 4;
    /** Above all that is weighed. */
    private static final int FAR = 1_000_000_000;
    private static final int NO_SUCH_NUMBER = -99;
    private static final int NO_SUCH_SHIFT = -9999;

    private static final int BYTES_FED = 20;
    private static final int FARTHEST_POINT = 200;
    private static final int GREATEST_SPREAD = 2;
    private static final int LAST_SHIFT_CODE = 24;
    private static final int LONGEST_RUN = 24;
    private static final int STEEPEST_DRIFT = 50;
    private static final int CHANCE = 1;
    private static final int JUMP = 2;
    private static final int DRIFT = 4;

    private final JobText text = new JobText();
    private final Tape tape = text.tape;
    private Job job = new Job();
    private final Readings readings = new Readings();
    private final Fit fit = new Fit();
    private final Mending mending = new Mending();
    private final Meeting meeting = new Meeting();
    private final Board[] proof = Board.emptyShapes();
    private boolean signed;
    private final Board moved = new Board();
    private final Board marked = new Board();
    private final int[] run = new int[LONGEST_RUN];
    private final Halts halts = new Halts();
    private final Tissue bed = new Tissue();
    private final int[] bestOrder = new int[INKS];

    public FourInks() {
    }

    // ---- the tape

    public int feed(int a, int b, int c, int d, int e) {
        if (tape.length + BYTES_FED > Tape.ROOM) {
            return FULL;
        }
        tape.put(a);
        tape.put(b);
        tape.put(c);
        tape.put(d);
        tape.put(e);
        return tape.length;
    }

    public int end(int n) {
        if (n < 0 || n > tape.length) {
            return NONE;
        }
        tape.length = n;
        return n;
    }

    // ---- the job

    public int job() {
        boolean good = text.isJob();
        tape.length = 0;
        if (!good) {
            return NONE;
        }
        Job old = job;
        job = text.draft;
        text.draft = old;
        readings.forget();
        mending.forget();
        meeting.forget();
        bed.forget();
        return job.clauses;
    }

    public int fault(int what) {
        switch (what) {
            case 0:
                return text.fault;
            case 1:
                return text.place;
            default:
                return NONE;
        }
    }

    public int told(int what) {
        if (what < 10) {
            return job.plainNumber(what);
        }
        if (what < 10 + INKS) {
            return job.screws[what - 10];
        }
        if (what < 20) {
            return NONE;
        }
        if (what < 20 + INKS * INKS) {
            return job.stays(what - 20);
        }
        if (what < 40) {
            return NONE;
        }
        if (what < 60) {
            return job.markNumber((what - 40) % 10, what >= 50);
        }
        if (what < 80) {
            return job.screens.stepOf((what - 60) % 10, what >= 70);
        }
        return NONE;
    }

    public int screw(int ink, int k, int what) {
        if (!isInk(ink) || k < 0 || k >= job.screws[ink] || what < 0 || what >= Job.SCREW_NUMBERS) {
            return NO_SUCH_NUMBER;
        }
        return job.screwNumber(ink, k, what);
    }

    // ---- slips

    public int shift(int a, int b, int r, int s, int x, int y, int what) {
        if (!isSlip(a, b, r, s) || !isPlace(x) || !isPlace(y)) {
            return NO_SUCH_SHIFT;
        }
        switch (what) {
            case 0:
                return a + turnedAcross(r, s, x, y);
            case 1:
                return b + turnedUp(r, s, x, y);
            default:
                return NO_SUCH_SHIFT;
        }
    }

    public int read(int told, int ink, int mark, int across, int up) {
        if (!readings.mayTell(told, across, up) || !isInk(ink) || mark < 0 || mark >= job.marks) {
            return RANGE;
        }
        return readings.put(told, ink, mark, across, up);
    }

    public int right(int told, int k, int across, int up) {
        if (!readings.mayTell(told, across, up) || k < 0 || k >= readings.size) {
            return RANGE;
        }
        return readings.putRight(told, k, across, up);
    }

    public int fit(int ink, int known, int what) {
        if (!isInk(ink) || !Readings.isStep(known)) {
            return NO_SUCH_NUMBER;
        }
        int number = what % 10;
        boolean ofNumber = what >= 10 && what < 30 && number < Fit.NUMBERS;
        if (what != 0 && !ofNumber) {
            return NO_SUCH_NUMBER;
        }
        fit.find(job, readings, ink, known);
        if (what == 0) {
            return fit.slips;
        }
        if (fit.slips == 0) {
            return NO_SUCH_NUMBER;
        }
        return what < 20 ? fit.least[number] : fit.greatest[number];
    }

    public int sure(int ink, int known) {
        if (!isInk(ink) || !Readings.isStep(known)) {
            return RANGE;
        }
        fit.find(job, readings, ink, known);
        return fit.slips == 0 ? NONE : fit.sureBits();
    }

    public int mend(int ink, int a, int b, int r, int s) {
        if (!isInk(ink) || !isSlip(a, b, r, s)) {
            return RANGE;
        }
        mending.begin(a, b, r, s);
        return mending.find(job, ink);
    }

    public int turned(int k) {
        return k < 0 || k >= mending.screws ? NO_SUCH_NUMBER : mending.bestRow[k];
    }

    public int pulled(int k, int x) {
        return k < 1 || k >= INKS || !isPlace(x) ? RANGE : k * x / 100;
    }

    // ---- shapes

    public int shape(int ink, int k, int y) {
        if (!isInk(ink) || !isSpread(k) || y < 0 || y >= Board.SIDE) {
            return RANGE;
        }
        moved.copy(job.shapes[ink]);
        moved.grow(k);
        return moved.row(y);
    }

    public int seen(int one, int two, int k, int l, int i, int j, int what) {
        if (!areUnlikeInks(one, two) || !isSpread(k) || !isSpread(l)) {
            return RANGE;
        }
        if (!Board.isShift(i) || !Board.isShift(j) || what < 0 || what > 2) {
            return RANGE;
        }
        meeting.lay(job, one, two, k, l);
        int seen = meeting.slip(i, j);
        switch (what) {
            case 0:
                return meeting.whiteCells;
            case 1:
                return meeting.overCells;
            default:
                return seen;
        }
    }

    public int worst(int one, int two, int k, int l, int d) {
        if (!areUnlikeInks(one, two) || !isSpread(k) || !isSpread(l) || !isReach(d)) {
            return RANGE;
        }
        meeting.lay(job, one, two, k, l);
        return meeting.worstWithin(d);
    }

    public int best(int one, int two, int d) {
        if (!areUnlikeInks(one, two) || !isReach(d)) {
            return RANGE;
        }
        return meeting.findBest(job, one, two, d);
    }

    public int spread(int what) {
        if (!meeting.isFound) {
            return NO_SUCH_NUMBER;
        }
        switch (what) {
            case 0:
                return meeting.bestOne;
            case 1:
                return meeting.bestTwo;
            default:
                return NO_SUCH_NUMBER;
        }
    }

    public int sign() {
        marked.clear();
        for (int ink = 0; ink < INKS; ink++) {
            proof[ink].copy(job.shapes[ink]);
            marked.add(proof[ink]);
        }
        signed = true;
        return marked.cells();
    }

    public int held(int blue, int red, int yellow, int black) {
        if (!isShiftCode(blue) || !isShiftCode(red) || !isShiftCode(yellow) || !isShiftCode(black)) {
            return RANGE;
        }
        if (!signed) {
            return STATE;
        }
        marked.clear();
        markUnlike(0, blue);
        markUnlike(1, red);
        markUnlike(2, yellow);
        markUnlike(3, black);
        return marked.cells();
    }

    private void markUnlike(int ink, int code) {
        moved.copy(job.shapes[ink]);
        moved.move(code % 5 - 2, code / 5 - 2);
        marked.addUnlike(proof[ink], moved);
    }

    // ---- runs

    public int causes(int e) {
        int size = tape.takeRow(run, 999, true);
        if (e < 0 || e > 99) {
            return RANGE;
        }
        return size < 1 ? NONE : causesOf(size, 2 * e);
    }

    /** Numbers lie around some level by e at most just if the greatest is 2 e at most above the least. */
    private int causesOf(int size, int breadth) {
        if (breadthOf(0, size, 0) <= breadth) {
            return CHANCE;
        }
        int causes = isJump(size, breadth) ? JUMP : 0;
        return isDrift(size, breadth) ? causes | DRIFT : causes;
    }

    private boolean isJump(int size, int breadth) {
        for (int next = 1; next < size; next++) {
            if (breadthOf(0, next, 0) <= breadth && breadthOf(next, size, 0) <= breadth) {
                return true;
            }
        }
        return false;
    }

    private boolean isDrift(int size, int breadth) {
        for (int step = -STEEPEST_DRIFT; step <= STEEPEST_DRIFT; step++) {
            if (step != 0 && breadthOf(0, size, step) <= breadth) {
                return true;
            }
        }
        return false;
    }

    /** The greatest less the least of the numbers from .. to - 1, each less so many steps as lie ahead of it. */
    private int breadthOf(int from, int to, int step) {
        if (from < 0 || from >= to || to > run.length) {
            return 0;
        }
        int least = run[from] - from * step;
        int greatest = least;
        for (int k = from + 1; k < to; k++) {
            int level = run[k] - k * step;
            least = Math.min(least, level);
            greatest = Math.max(greatest, level);
        }
        return greatest - least;
    }

    public long cost(int n, int off, int spoil, int price, int up, int down) {
        if (!Halts.areBounds(n, off, spoil, price) || !Halts.areChances(up, down)) {
            return RANGE;
        }
        halts.weigh(n, off, spoil, price, up, down);
        return Math.min(halts.going, halts.halting);
    }

    public int halt(int n, int off, int spoil, int price, int up, int down) {
        if (!Halts.areBounds(n, off, spoil, price) || !Halts.areChances(up, down)) {
            return RANGE;
        }
        halts.weigh(n, off, spoil, price, up, down);
        return halts.halting < halts.going ? 1 : 0;
    }

    public int tissue(int step, int target, int t) {
        int zones = tape.takeRow(bed.greys, 99, false);
        if (step < 1 || step > 20 || target < 0 || target > 120 || t < 0 || t > 20) {
            return RANGE;
        }
        if (zones < 1 || !bed.bound(zones, step, target - t, target + t)) {
            return NONE;
        }
        return bed.find(zones);
    }

    public int layers(int k) {
        if (bed.zones == 0) {
            return NONE;
        }
        if (k == NONE) {
            return bed.layersInAll;
        }
        return k < 0 || k >= bed.zones ? NONE : bed.layers[k];
    }

    // ---- screens and orders

    public int beat(int k, int l) {
        Screens screens = job.screens;
        return screens.isScreen(k) && screens.isScreen(l) ? screens.beatOf(k, l) : RANGE;
    }

    public int setting(int what) {
        if (what < 0 || what > INKS) {
            return RANGE;
        }
        if (job.screens.size < INKS) {
            return NONE;
        }
        int beat = job.screens.findSetting();
        return what == 0 ? beat : job.screens.setting[what - 1];
    }

    public int order(int what) {
        if (what < 0 || what > INKS) {
            return RANGE;
        }
        int greatest = findOrder();
        return what == 0 ? greatest : bestOrder[what - 1];
    }

    /** Orders are tried from the least row on, so that of like ones the least stays. */
    private int findOrder() {
        int greatest = NONE;
        for (int first = 0; first < INKS; first++) {
            for (int second = 0; second < INKS; second++) {
                for (int third = 0; third < INKS; third++) {
                    int fourth = 6 - first - second - third;
                    int sum = sumOf(first, second, third, fourth);
                    if (sum > greatest) {
                        greatest = sum;
                        bestOrder[0] = first;
                        bestOrder[1] = second;
                        bestOrder[2] = third;
                        bestOrder[3] = fourth;
                    }
                }
            }
        }
        return greatest;
    }

    public int sum(int order) {
        if (order < 0 || order > 9999) {
            return RANGE;
        }
        return sumOf(order / 1000, order / 100 % 10, order / 10 % 10, order % 10);
    }

    /** The sum of an ORDER; RANGE if these aren't all four INKS. */
    private int sumOf(int first, int second, int third, int fourth) {
        if (!areUnlikeInks(first, second) || !areUnlikeInks(third, fourth)) {
            return RANGE;
        }
        if ((1 << first | 1 << second | 1 << third | 1 << fourth) != 15) {
            return RANGE;
        }
        return job.lies[first * INKS + second] + job.lies[second * INKS + third] + job.lies[third * INKS + fourth];
    }

    public int count(int what) {
        switch (what) {
            case 0:
                return job.clauses;
            case 1:
                return readings.size;
            case 2:
                return readings.rights;
            case 3:
                return signed ? 1 : 0;
            case 4:
                return tape.length;
            default:
                return NONE;
        }
    }

    // ---- what numbers can be

    private static boolean isInk(int ink) {
        return ink >= 0 && ink < INKS;
    }

    private static boolean areUnlikeInks(int one, int two) {
        return isInk(one) && isInk(two) && one != two;
    }

    private static boolean isSlip(int a, int b, int r, int s) {
        return isWithinNine(a) && isWithinNine(b) && isWithinNine(r) && s >= 0 && s <= 9;
    }

    private static boolean isWithinNine(int number) {
        return number >= -9 && number <= 9;
    }

    private static boolean isPlace(int x) {
        return x >= 0 && x <= FARTHEST_POINT;
    }

    private static boolean isSpread(int k) {
        return k >= -GREATEST_SPREAD && k <= GREATEST_SPREAD;
    }

    private static boolean isReach(int d) {
        return d >= 0 && d <= Board.FARTHEST_SHIFT;
    }

    private static boolean isShiftCode(int code) {
        return code >= 0 && code <= LAST_SHIFT_CODE;
    }

    // ---- what a SLIP's turn and stretch add to its shift

    private static int turnedAcross(int r, int s, int x, int y) {
        return (s * x - r * y) / 100;
    }

    private static int turnedUp(int r, int s, int x, int y) {
        return (r * x + s * y) / 100;
    }

    /** THE TAPE and, one by one, the TOKENS on it. */
    private static final class Tape {
        static final int ROOM = 900;
        static final int AT_END = 0;
        static final int WORD = 1;
        static final int NUMBER = 2;
        static final int SEMICOLON = 3;
        static final int MINUS = 4;
        static final int NO_TOKEN = 5;
        static final int LONGEST_WORD = 8;
        private static final int LONGEST_NUMBER = 4;

        private final byte[] bytes = new byte[ROOM];
        private int at;
        int length;
        /** Of the TOKEN that was read last: what it is, its first byte's place, and what an N tells. */
        int kind;
        int start;
        int value;

        void put(int fourBytes) {
            for (int shift = 24; shift >= 0 && length < ROOM; shift -= 8) {
                bytes[length] = (byte) (fourBytes >>> shift);
                length++;
            }
        }

        void rewind() {
            at = 0;
        }

        void next() {
            while (at < length && isBlank(bytes[at])) {
                at++;
            }
            start = at;
            value = 0;
            if (at >= length) {
                kind = AT_END;
            } else if (isLetter(bytes[at])) {
                takeWord();
            } else if (isDigit(bytes[at])) {
                takeNumber();
            } else {
                takeSign(bytes[at]);
            }
        }

        private static boolean isBlank(int b) {
            return b == ' ' || b == '\n';
        }

        private static boolean isLetter(int b) {
            return b >= 'a' && b <= 'z';
        }

        private static boolean isDigit(int b) {
            return b >= '0' && b <= '9';
        }

        private void takeWord() {
            while (at < length && isLetter(bytes[at])) {
                at++;
            }
            kind = at - start <= LONGEST_WORD ? WORD : NO_TOKEN;
        }

        private void takeNumber() {
            while (at < length && isDigit(bytes[at])) {
                value = value * 10 + bytes[at] - '0';
                at++;
            }
            kind = at - start <= LONGEST_NUMBER ? NUMBER : NO_TOKEN;
        }

        private void takeSign(int sign) {
            at++;
            switch (sign) {
                case ';':
                    kind = SEMICOLON;
                    break;
                case '-':
                    kind = MINUS;
                    break;
                default:
                    kind = NO_TOKEN;
            }
        }

        /** Which word of a table (a column of eight signs for each) the TOKEN is. */
        int wordIn(String table) {
            if (kind != WORD) {
                return NONE;
            }
            for (int column = 0; column + LONGEST_WORD <= table.length(); column += LONGEST_WORD) {
                if (spells(table, column)) {
                    return column / LONGEST_WORD;
                }
            }
            return NONE;
        }

        private boolean spells(String table, int column) {
            for (int i = 0; i < LONGEST_WORD; i++) {
                int letter = start + i < at ? bytes[start + i] : ' ';
                if (table.charAt(column + i) != letter) {
                    return false;
                }
            }
            return true;
        }

        /** How many numbers THE TAPE has, which is empty then; NONE if it is no row of such numbers that has room. */
        int takeRow(int[] row, int most, boolean signs) {
            int size = 0;
            boolean good = true;
            rewind();
            next();
            while (good && size < row.length && kind != AT_END) {
                boolean minus = signs && kind == MINUS;
                if (minus) {
                    next();
                }
                good = kind == NUMBER && value <= most;
                row[size] = minus ? -value : value;
                size++;
                next();
            }
            good = good && kind == AT_END;
            length = 0;
            return good ? size : NONE;
        }
    }

    /** Reads THE TAPE as a JOB, up to the first FAULT: behind it nothing is read, and nothing told counts. */
    private static final class JobText {
        private static final int SYNTAX = 1;
        private static final int OUT_OF_BOUNDS = 2;
        private static final int TWICE = 3;
        private static final int NO_ROOM = 4;
        private static final int LATE = 5;

        private static final String INK_WORDS = "blue    red     yellow  black   ";
        private static final String CLAUSE_WORDS =
            "sheet   slack   turns   white   over    mark    screw   box     screen  lies    ";
        private static final int SHEET = 0;
        private static final int SLACK = 1;
        private static final int TURNS = 2;
        private static final int WHITE = 3;
        private static final int OVER = 4;
        private static final int MARK = 5;
        private static final int SCREW = 6;
        private static final int BOX = 7;
        private static final int SCREEN = 8;
        private static final int LIES = 9;

        final Tape tape = new Tape();
        private int clausesTold;
        private int pairsTold;
        Job draft = new Job();
        int fault;
        int place = NONE;

        boolean isJob() {
            draft.forget();
            clausesTold = 0;
            pairsTold = 0;
            fault = 0;
            place = NONE;
            tape.rewind();
            tape.next();
            for (int i = 0; i < Tape.ROOM && fault == 0 && tape.kind != Tape.AT_END; i++) {
                takeClause();
                takeSemicolon();
                tape.next();
            }
            return fault == 0;
        }

        private void refuse(int kind) {
            if (fault == 0) {
                fault = kind;
                place = tape.start;
            }
        }

        private void takeClause() {
            switch (tape.wordIn(CLAUSE_WORDS)) {
                case SHEET:
                    takeSheet();
                    break;
                case SLACK:
                    draft.slack = onlyNumber(SLACK, 9);
                    break;
                case TURNS:
                    draft.turns = onlyNumber(TURNS, 4);
                    break;
                case WHITE:
                    draft.white = onlyNumber(WHITE, 99);
                    break;
                case OVER:
                    draft.over = onlyNumber(OVER, 99);
                    break;
                case MARK:
                    takeMark();
                    break;
                case SCREW:
                    takeScrew();
                    break;
                case BOX:
                    takeBox();
                    break;
                case SCREEN:
                    takeScreen();
                    break;
                case LIES:
                    takeLies();
                    break;
                default:
                    refuse(SYNTAX);
            }
        }

        private void takeSemicolon() {
            if (fault != 0) {
                return;
            }
            tape.next();
            if (tape.kind == Tape.SEMICOLON) {
                draft.clauses++;
            } else {
                refuse(SYNTAX);
            }
        }

        private void refuseTwice(int clause) {
            if ((clausesTold >> clause & 1) != 0) {
                refuse(TWICE);
            }
            clausesTold |= 1 << clause;
        }

        private int onlyNumber(int clause, int most) {
            refuseTwice(clause);
            return number(0, most);
        }

        private void takeSheet() {
            refuseTwice(SHEET);
            if (draft.marks > 0) {
                refuse(LATE);
            }
            draft.width = number(10, 200);
            draft.height = number(10, 200);
        }

        private void takeMark() {
            if (draft.marks >= Job.MARKS) {
                refuse(NO_ROOM);
                return;
            }
            draft.markX[draft.marks] = number(0, draft.width);
            draft.markY[draft.marks] = number(0, draft.height);
            draft.marks++;
        }

        private void takeScrew() {
            int ink = ink();
            if (draft.screws[ink] >= Job.SCREWS) {
                refuse(NO_ROOM);
                return;
            }
            for (int what = 0; what < Job.SCREW_NUMBERS; what++) {
                draft.putScrewNumber(ink, draft.screws[ink], what, signedNumber(20));
            }
            draft.screws[ink]++;
        }

        private void takeBox() {
            if (draft.boxes >= Job.BOXES) {
                refuse(NO_ROOM);
                return;
            }
            int ink = ink();
            int x = number(0, Board.SIDE - 1);
            int y = number(0, Board.SIDE - 1);
            int width = number(1, Board.SIDE);
            int height = number(1, Board.SIDE);
            draft.shapes[ink].addBox(x, y, width, height);
            draft.boxes++;
        }

        private void takeScreen() {
            if (draft.screens.size >= Screens.MOST) {
                refuse(NO_ROOM);
                return;
            }
            int p = number(1, 30);
            int q = number(1, 30);
            draft.screens.put(p, q);
        }

        private void takeLies() {
            int first = ink();
            int second = ink();
            int pair = first * INKS + second;
            if (first == second || (pairsTold >> pair & 1) != 0) {
                refuse(TWICE);
            }
            pairsTold |= 1 << pair;
            draft.lies[pair] = number(0, 100);
        }

        /** The next TOKEN as an INK; some INK, if there is a FAULT. */
        private int ink() {
            if (fault != 0) {
                return 0;
            }
            tape.next();
            int ink = tape.wordIn(INK_WORDS);
            if (!isInk(ink)) {
                refuse(SYNTAX);
                return 0;
            }
            return ink;
        }

        /** The next TOKEN as an N within bounds; the least, if there is a FAULT. */
        private int number(int least, int most) {
            if (fault != 0) {
                return least;
            }
            tape.next();
            return numberHere(least, most);
        }

        private int signedNumber(int most) {
            if (fault != 0) {
                return 0;
            }
            tape.next();
            boolean minus = tape.kind == Tape.MINUS;
            if (minus) {
                tape.next();
            }
            int number = numberHere(0, most);
            return minus ? -number : number;
        }

        private int numberHere(int least, int most) {
            if (tape.kind != Tape.NUMBER) {
                refuse(SYNTAX);
                return least;
            }
            if (tape.value < least || tape.value > most) {
                refuse(OUT_OF_BOUNDS);
                return least;
            }
            return tape.value;
        }
    }

    /** What a JOB tells. */
    private static final class Job {
        static final int MARKS = 8;
        static final int SCREWS = 3;
        static final int SCREW_NUMBERS = 3;
        static final int BOXES = 8;

        int clauses;
        int width;
        int height;
        int marks;
        final int[] markX = new int[MARKS];
        final int[] markY = new int[MARKS];
        int slack;
        /** How many each INK has. */
        final int[] screws = new int[INKS];
        private final int[] screwNumbers = new int[INKS * SCREWS * SCREW_NUMBERS];
        int turns;
        int boxes;
        final Board[] shapes = Board.emptyShapes();
        int white;
        int over;
        final Screens screens = new Screens();
        /** At 4 times the lower INK and the upper one: how much of that stays. */
        final int[] lies = new int[INKS * INKS];

        Job() {
            forget();
        }

        void forget() {
            clauses = 0;
            width = 100;
            height = 100;
            marks = 0;
            slack = 1;
            Arrays.fill(screws, 0);
            turns = 2;
            boxes = 0;
            for (int ink = 0; ink < INKS; ink++) {
                shapes[ink].clear();
            }
            white = 3;
            over = 1;
            screens.size = 0;
            Arrays.fill(lies, 100);
        }

        int plainNumber(int what) {
            switch (what) {
                case 0:
                    return width;
                case 1:
                    return height;
                case 2:
                    return marks;
                case 3:
                    return slack;
                case 4:
                    return turns;
                case 5:
                    return boxes;
                case 6:
                    return white;
                case 7:
                    return over;
                case 8:
                    return screens.size;
                default:
                    return NONE;
            }
        }

        int markNumber(int k, boolean up) {
            if (k < 0 || k >= marks) {
                return NONE;
            }
            return up ? markY[k] : markX[k];
        }

        int stays(int pair) {
            boolean unlike = pair >= 0 && pair < lies.length && pair / INKS != pair % INKS;
            return unlike ? lies[pair] : NONE;
        }

        int screwNumber(int ink, int k, int what) {
            int at = (ink * SCREWS + k) * SCREW_NUMBERS + what;
            return at >= 0 && at < screwNumbers.length ? screwNumbers[at] : 0;
        }

        void putScrewNumber(int ink, int k, int what, int number) {
            int at = (ink * SCREWS + k) * SCREW_NUMBERS + what;
            if (at >= 0 && at < screwNumbers.length) {
                screwNumbers[at] = number;
            }
        }
    }

    /** SCREENS and the four of them that are set best. */
    private static final class Screens {
        static final int MOST = 8;

        int size;
        private final int[] p = new int[MOST];
        private final int[] q = new int[MOST];
        final int[] setting = new int[INKS];

        boolean isScreen(int k) {
            return k >= 0 && k < size;
        }

        void put(int newP, int newQ) {
            if (size < MOST) {
                p[size] = newP;
                q[size] = newQ;
                size++;
            }
        }

        int stepOf(int k, boolean second) {
            if (!isScreen(k)) {
                return NONE;
            }
            return second ? q[k] : p[k];
        }

        int beatOf(int k, int l) {
            int upright = Math.min(squaresFrom(k, p[l], q[l]), squaresFrom(k, -p[l], -q[l]));
            int lying = Math.min(squaresFrom(k, -q[l], p[l]), squaresFrom(k, q[l], -p[l]));
            return Math.min(upright, lying);
        }

        private int squaresFrom(int k, int otherP, int otherQ) {
            int across = p[k] - otherP;
            int up = q[k] - otherQ;
            return across * across + up * up;
        }

        /** The greatest least BEAT of four; rising rows alone are tried, since another row of the same four is greater. */
        int findSetting() {
            int greatest = NONE;
            for (int a = 0; a < size; a++) {
                for (int b = a + 1; b < size; b++) {
                    for (int c = b + 1; c < size; c++) {
                        for (int d = c + 1; d < size; d++) {
                            int beat = leastBeat(a, b, c, d);
                            if (beat > greatest) {
                                greatest = beat;
                                set(a, b, c, d);
                            }
                        }
                    }
                }
            }
            return greatest;
        }

        private int leastBeat(int a, int b, int c, int d) {
            int ofA = Math.min(beatOf(a, b), Math.min(beatOf(a, c), beatOf(a, d)));
            int ofOthers = Math.min(beatOf(b, c), Math.min(beatOf(b, d), beatOf(c, d)));
            return Math.min(ofA, ofOthers);
        }

        private void set(int a, int b, int c, int d) {
            setting[0] = a;
            setting[1] = b;
            setting[2] = c;
            setting[3] = d;
        }
    }

    /** A set of cells of the board: four rows in each word, the lowest in its lowest 16 bits. */
    private static final class Board {
        static final int SIDE = 16;
        static final int WORDS = 4;
        static final int FARTHEST_SHIFT = 2;
        private static final int ROWS_IN_WORD = 4;
        private static final int TOP_ROW = 48;
        private static final long ALL_BUT_FIRST = 0xFFFE_FFFE_FFFE_FFFEL;
        private static final long ALL_BUT_LAST = 0x7FFF_7FFF_7FFF_7FFFL;

        final long[] words = new long[WORDS];

        static Board[] emptyShapes() {
            Board[] shapes = new Board[INKS];
            for (int ink = 0; ink < INKS; ink++) {
                shapes[ink] = new Board();
            }
            return shapes;
        }

        static boolean isShift(int i) {
            return i >= -FARTHEST_SHIFT && i <= FARTHEST_SHIFT;
        }

        void clear() {
            Arrays.fill(words, 0L);
        }

        void copy(Board other) {
            System.arraycopy(other.words, 0, words, 0, WORDS);
        }

        void add(Board other) {
            for (int w = 0; w < WORDS; w++) {
                words[w] |= other.words[w];
            }
        }

        void addUnlike(Board one, Board two) {
            for (int w = 0; w < WORDS; w++) {
                words[w] |= one.words[w] ^ two.words[w];
            }
        }

        int cells() {
            int cells = 0;
            for (int w = 0; w < WORDS; w++) {
                cells += Long.bitCount(words[w]);
            }
            return cells;
        }

        void addBox(int x, int y, int width, int height) {
            int cells = (1 << width) - 1 << x & 0xFFFF;
            for (int row = y; row < y + height && row < SIDE; row++) {
                words[row / ROWS_IN_WORD] |= (long) cells << row % ROWS_IN_WORD * SIDE;
            }
        }

        int row(int y) {
            return (int) (words[y / ROWS_IN_WORD] >>> y % ROWS_IN_WORD * SIDE) & 0xFFFF;
        }

        /** Spread, or choked if k is below 0: then all that isn't the shape spreads. */
        void grow(int k) {
            if (k < 0) {
                invert();
            }
            for (int i = 0; i < Math.abs(k); i++) {
                growOnce();
            }
            if (k < 0) {
                invert();
            }
        }

        private void invert() {
            for (int w = 0; w < WORDS; w++) {
                words[w] = ~words[w];
            }
        }

        private void growOnce() {
            long below = 0;
            for (int w = 0; w < WORDS; w++) {
                long here = words[w];
                long above = w + 1 < WORDS ? words[w + 1] : 0;
                long across = here << 1 & ALL_BUT_FIRST | here >>> 1 & ALL_BUT_LAST;
                long up = here << SIDE | below >>> TOP_ROW;
                long down = here >>> SIDE | above << TOP_ROW;
                words[w] = here | across | up | down;
                below = here;
            }
        }

        void move(int i, int j) {
            moveAcross(i);
            for (int n = 0; n < j; n++) {
                moveUpOnce();
            }
            for (int n = 0; n < -j; n++) {
                moveDownOnce();
            }
        }

        private void moveAcross(int i) {
            for (int w = 0; w < WORDS; w++) {
                for (int n = 0; n < i; n++) {
                    words[w] = words[w] << 1 & ALL_BUT_FIRST;
                }
                for (int n = 0; n < -i; n++) {
                    words[w] = words[w] >>> 1 & ALL_BUT_LAST;
                }
            }
        }

        private void moveUpOnce() {
            for (int w = WORDS - 1; w > 0; w--) {
                words[w] = words[w] << SIDE | words[w - 1] >>> TOP_ROW;
            }
            words[0] <<= SIDE;
        }

        private void moveDownOnce() {
            for (int w = 0; w < WORDS - 1; w++) {
                words[w] = words[w] >>> SIDE | words[w + 1] << TOP_ROW;
            }
            words[WORDS - 1] >>>= SIDE;
        }
    }

    /** READINGS and how they were put RIGHT, each in the order of telling. */
    private static final class Readings {
        private static final int MOST = 24;
        private static final int MOST_RIGHTS = 20;
        private static final int LAST_STEP = 999;
        private static final int FARTHEST = 99;

        int size;
        int rights;
        private int latest;
        private final int[] step = new int[MOST];
        private final int[] ink = new int[MOST];
        private final int[] mark = new int[MOST];
        private final int[] across = new int[MOST];
        private final int[] up = new int[MOST];
        private final int[] rightOf = new int[MOST_RIGHTS];
        private final int[] rightStep = new int[MOST_RIGHTS];
        private final int[] rightAcross = new int[MOST_RIGHTS];
        private final int[] rightUp = new int[MOST_RIGHTS];

        static boolean isStep(int told) {
            return told >= 0 && told <= LAST_STEP;
        }

        void forget() {
            size = 0;
            rights = 0;
            latest = 0;
        }

        boolean mayTell(int told, int newAcross, int newUp) {
            return isStep(told) && told >= latest && isShiftSeen(newAcross) && isShiftSeen(newUp);
        }

        private static boolean isShiftSeen(int shift) {
            return shift >= -FARTHEST && shift <= FARTHEST;
        }

        int put(int told, int newInk, int newMark, int newAcross, int newUp) {
            if (size >= MOST) {
                return FULL;
            }
            step[size] = told;
            ink[size] = newInk;
            mark[size] = newMark;
            across[size] = newAcross;
            up[size] = newUp;
            latest = told;
            size++;
            return size - 1;
        }

        int putRight(int told, int k, int newAcross, int newUp) {
            if (rights >= MOST_RIGHTS) {
                return FULL;
            }
            rightOf[rights] = k;
            rightStep[rights] = told;
            rightAcross[rights] = newAcross;
            rightUp[rights] = newUp;
            latest = told;
            rights++;
            return timesRight(k);
        }

        private int timesRight(int k) {
            int times = 0;
            for (int i = 0; i < rights; i++) {
                if (rightOf[i] == k) {
                    times++;
                }
            }
            return times;
        }

        boolean isKnown(int k, int wantedInk, int known) {
            return ink[k] == wantedInk && step[k] <= known;
        }

        int markOf(int k) {
            return mark[k];
        }

        int acrossKnown(int k, int known) {
            int i = lastRight(k, known);
            return i == NONE ? across[k] : rightAcross[i];
        }

        int upKnown(int k, int known) {
            int i = lastRight(k, known);
            return i == NONE ? up[k] : rightUp[i];
        }

        private int lastRight(int k, int known) {
            int last = NONE;
            for (int i = 0; i < rights; i++) {
                if (rightOf[i] == k && rightStep[i] <= known) {
                    last = i;
                }
            }
            return last;
        }
    }

    /**
     * All SLIPS that fit: for each turn and stretch each READING leaves a row of a and a row of b without gaps,
     * so that what all of them leave is counted without trying each a and b.
     */
    private static final class Fit {
        static final int NUMBERS = 4;

        private int size;
        private final int[] x = new int[Readings.MOST];
        private final int[] y = new int[Readings.MOST];
        private final int[] across = new int[Readings.MOST];
        private final int[] up = new int[Readings.MOST];
        private int leastA;
        private int greatestA;
        private int leastB;
        private int greatestB;
        int slips;
        final int[] least = new int[NUMBERS];
        final int[] greatest = new int[NUMBERS];

        void find(Job job, Readings readings, int ink, int known) {
            gather(job, readings, ink, known);
            slips = 0;
            for (int r = -9; r <= 9; r++) {
                for (int s = 0; s <= 9; s++) {
                    boundShifts(r, s, job.slack);
                    if (leastA <= greatestA && leastB <= greatestB) {
                        takeIn(r, s);
                    }
                }
            }
        }

        private void gather(Job job, Readings readings, int ink, int known) {
            size = 0;
            for (int k = 0; k < readings.size && size < x.length; k++) {
                int mark = readings.markOf(k);
                if (readings.isKnown(k, ink, known) && mark < job.marks) {
                    x[size] = job.markX[mark];
                    y[size] = job.markY[mark];
                    across[size] = readings.acrossKnown(k, known);
                    up[size] = readings.upKnown(k, known);
                    size++;
                }
            }
        }

        private void boundShifts(int r, int s, int slack) {
            leastA = -9;
            greatestA = 9;
            leastB = -9;
            greatestB = 9;
            for (int i = 0; i < size; i++) {
                int a = across[i] - turnedAcross(r, s, x[i], y[i]);
                int b = up[i] - turnedUp(r, s, x[i], y[i]);
                leastA = Math.max(leastA, a - slack);
                greatestA = Math.min(greatestA, a + slack);
                leastB = Math.max(leastB, b - slack);
                greatestB = Math.min(greatestB, b + slack);
            }
        }

        private void takeIn(int r, int s) {
            widen(0, leastA, greatestA);
            widen(1, leastB, greatestB);
            widen(2, r, r);
            widen(3, s, s);
            slips += (greatestA - leastA + 1) * (greatestB - leastB + 1);
        }

        private void widen(int number, int from, int to) {
            least[number] = slips == 0 ? from : Math.min(least[number], from);
            greatest[number] = slips == 0 ? to : Math.max(greatest[number], to);
        }

        int sureBits() {
            int bits = 0;
            for (int number = 0; number < NUMBERS; number++) {
                if (least[number] == greatest[number]) {
                    bits |= 1 << number;
                }
            }
            return bits;
        }
    }

    /** MENDING a SLIP: rows of turns are tried from the least on, so that of like ones the least stays. */
    private static final class Mending {
        private int a;
        private int b;
        private int r;
        private int s;
        private final int[] row = new int[Job.SCREWS];
        /** The best row of the latest mending, for so many SCREWS. */
        int screws;
        final int[] bestRow = new int[Job.SCREWS];

        void forget() {
            screws = 0;
        }

        void begin(int newA, int newB, int newR, int newS) {
            a = newA;
            b = newB;
            r = newR;
            s = newS;
        }

        int find(Job job, int ink) {
            int leastBad = FAR;
            int leastTurns = FAR;
            screws = Math.min(job.screws[ink], Job.SCREWS);
            int rows = beginRows(job.turns);
            for (int i = 0; i < rows; i++) {
                int bad = badOfRow(job, ink);
                int turns = turnsOfRow();
                if (bad < leastBad || bad == leastBad && turns < leastTurns) {
                    leastBad = bad;
                    leastTurns = turns;
                    System.arraycopy(row, 0, bestRow, 0, screws);
                }
                nextRow(job.turns);
            }
            return leastBad;
        }

        /** Sets the least row, and answers how many there are. */
        private int beginRows(int most) {
            int rows = 1;
            for (int k = 0; k < screws; k++) {
                row[k] = -most;
                rows *= 2 * most + 1;
            }
            return rows;
        }

        private void nextRow(int most) {
            for (int k = screws - 1; k >= 0; k--) {
                if (row[k] < most) {
                    row[k]++;
                    return;
                }
                row[k] = -most;
            }
        }

        private int turnsOfRow() {
            int turns = 0;
            for (int k = 0; k < screws; k++) {
                turns += Math.abs(row[k]);
            }
            return turns;
        }

        private int badOfRow(Job job, int ink) {
            int newA = a;
            int newB = b;
            int newR = r;
            for (int k = 0; k < screws; k++) {
                newA += row[k] * job.screwNumber(ink, k, 0);
                newB += row[k] * job.screwNumber(ink, k, 1);
                newR += row[k] * job.screwNumber(ink, k, 2);
            }
            return badOf(job, newA, newB, newR);
        }

        private int badOf(Job job, int newA, int newB, int newR) {
            int bad = 0;
            for (int mark = 0; mark < job.marks; mark++) {
                int x = job.markX[mark];
                int y = job.markY[mark];
                bad = Math.max(bad, Math.abs(newA + turnedAcross(newR, s, x, y)));
                bad = Math.max(bad, Math.abs(newB + turnedUp(newR, s, x, y)));
            }
            return bad;
        }
    }

    /** The SHAPES of two INKS that meet, and what is seen as the second slips. */
    private static final class Meeting {
        private int whitePrice;
        private int overPrice;
        private final long[] wanted = new long[Board.WORDS];
        private final long[] common = new long[Board.WORDS];
        private final Board first = new Board();
        private final Board second = new Board();
        private final Board slipped = new Board();
        int whiteCells;
        int overCells;
        /** Whether a best() told a number, and its k and l. */
        boolean isFound;
        int bestOne;
        int bestTwo;

        void forget() {
            isFound = false;
        }

        void lay(Job job, int one, int two, int k, int l) {
            whitePrice = job.white;
            overPrice = job.over;
            first.copy(job.shapes[one]);
            second.copy(job.shapes[two]);
            for (int w = 0; w < Board.WORDS; w++) {
                wanted[w] = first.words[w] | second.words[w];
                common[w] = first.words[w] & second.words[w];
            }
            first.grow(k);
            second.grow(l);
        }

        /** SEEN, as the second is shifted. */
        int slip(int i, int j) {
            slipped.copy(second);
            slipped.move(i, j);
            whiteCells = 0;
            overCells = 0;
            for (int w = 0; w < Board.WORDS; w++) {
                long one = first.words[w];
                long two = slipped.words[w];
                whiteCells += Long.bitCount(wanted[w] & ~(one | two));
                overCells += Long.bitCount(one & two & ~common[w]);
            }
            return whitePrice * whiteCells + overPrice * overCells;
        }

        int worstWithin(int d) {
            int worst = 0;
            for (int i = -d; i <= d; i++) {
                for (int j = -d; j <= d; j++) {
                    worst = Math.max(worst, slip(i, j));
                }
            }
            return worst;
        }

        /** Spreads are tried from the least k and l on, so that of like ones these stay. */
        int findBest(Job job, int one, int two, int d) {
            int leastWorst = FAR;
            int leastSpread = FAR;
            for (int k = -GREATEST_SPREAD; k <= GREATEST_SPREAD; k++) {
                for (int l = -GREATEST_SPREAD; l <= GREATEST_SPREAD; l++) {
                    lay(job, one, two, k, l);
                    int worst = worstWithin(d);
                    int spread = Math.abs(k) + Math.abs(l);
                    if (worst < leastWorst || worst == leastWorst && spread < leastSpread) {
                        leastWorst = worst;
                        leastSpread = spread;
                        bestOne = k;
                        bestTwo = l;
                    }
                }
            }
            isFound = true;
            return leastWorst;
        }
    }

    /** HALTS: the least mean cost, told times 10 for each block. */
    private static final class Halts {
        private static final int MOST_BLOCKS = 8;
        private static final int FARTHEST_OFF = 6;
        private static final int DEAREST = 999;
        private static final int ALL_CHANCES = 10;

        /** At how far it is off: the least cost of the blocks that come behind, and of those and one more. */
        private final long[] behind = new long[FARTHEST_OFF + 1];
        private final long[] least = new long[FARTHEST_OFF + 1];
        long going;
        long halting;

        static boolean areBounds(int n, int off, int spoil, int price) {
            return n >= 1 && n <= MOST_BLOCKS && off >= 0 && off <= FARTHEST_OFF && isPrice(spoil) && isPrice(price);
        }

        private static boolean isPrice(int price) {
            return price >= 0 && price <= DEAREST;
        }

        static boolean areChances(int up, int down) {
            return isChance(up) && isChance(down) && up + down <= ALL_CHANCES;
        }

        private static boolean isChance(int chance) {
            return chance >= 0 && chance <= ALL_CHANCES;
        }

        void weigh(int n, int off, int spoil, int price, int up, int down) {
            long unit = 1;
            Arrays.fill(behind, 0L);
            for (int blocks = 1; blocks <= n; blocks++) {
                unit *= ALL_CHANCES;
                halting = price * unit + costBehind(0, up, down);
                for (int o = 0; o <= FARTHEST_OFF; o++) {
                    long goingOn = spoil * o * unit + costBehind(o, up, down);
                    least[o] = Math.min(goingOn, halting);
                    if (o == off) {
                        going = goingOn;
                    }
                }
                System.arraycopy(least, 0, behind, 0, least.length);
            }
        }

        private long costBehind(int off, int up, int down) {
            int more = Math.min(off + 1, FARTHEST_OFF);
            int less = Math.max(off - 1, 0);
            return up * behind[more] + down * behind[less] + (ALL_CHANCES - up - down) * behind[off];
        }
    }

    /** TISSUE: a row of layers needs a SCRAP for each layer that a zone has more than the one ahead of it. */
    private static final class Tissue {
        private static final int MOST_ZONES = 20;
        private static final int CHOICES = 10;
        /** A SCRAP weighs more than all layers together, so that one number tells both. */
        private static final int SCRAP = 1000;

        final int[] greys = new int[MOST_ZONES];
        private final int[] fewest = new int[MOST_ZONES];
        private final int[] most = new int[MOST_ZONES];
        /** At a zone and the layers of the one ahead: the least weight from there on. */
        private final int[][] weights = new int[MOST_ZONES + 1][CHOICES];
        int zones;
        final int[] layers = new int[MOST_ZONES];
        int layersInAll;

        void forget() {
            zones = 0;
        }

        /** How few and how many layers each zone may have; false if some zone can't be. */
        boolean bound(int size, int step, int from, int to) {
            boolean good = true;
            for (int zone = 0; zone < size && zone < MOST_ZONES; zone++) {
                fewest[zone] = CHOICES;
                most[zone] = NONE;
                for (int n = 0; n < CHOICES; n++) {
                    int grey = greys[zone] + n * step;
                    if (grey >= from && grey <= to) {
                        fewest[zone] = Math.min(fewest[zone], n);
                        most[zone] = n;
                    }
                }
                good = good && most[zone] != NONE;
            }
            return good;
        }

        int find(int size) {
            zones = Math.min(size, MOST_ZONES);
            Arrays.fill(weights[zones], 0);
            for (int zone = zones - 1; zone >= 0; zone--) {
                for (int ahead = 0; ahead < CHOICES; ahead++) {
                    int n = lightest(zone, ahead);
                    weights[zone][ahead] = weight(zone, ahead, n);
                }
            }
            takeLayers();
            return weights[0][0] / SCRAP;
        }

        private int weight(int zone, int ahead, int n) {
            return SCRAP * Math.max(n - ahead, 0) + n + weights[zone + 1][n];
        }

        /** The least number of layers by which the least weight comes. */
        private int lightest(int zone, int ahead) {
            int lightest = fewest[zone];
            for (int n = fewest[zone] + 1; n <= most[zone]; n++) {
                if (weight(zone, ahead, n) < weight(zone, ahead, lightest)) {
                    lightest = n;
                }
            }
            return lightest;
        }

        private void takeLayers() {
            int ahead = 0;
            layersInAll = 0;
            for (int zone = 0; zone < zones; zone++) {
                ahead = lightest(zone, ahead);
                layers[zone] = ahead;
                layersInAll += ahead;
            }
        }
    }
}
