import java.util.Random;

/** Random calls, each held against the answer of NaiveInks. */
public final class NaiveTest {
    private static final int RUNS = 600;
    /** Nothing is promised of an object behind so many calls. */
    private static final int LAST_CALL = 512;
    /** Above what one step of a run may call. */
    private static final int CALLS_OF_STEP = 100;
    private static final int KINDS = 12;
    private static final String[] INKS = {"blue", "red", "yellow", "black"};

    private final Random random;
    private final FourInks x = new FourInks();
    private final NaiveInks naive = new NaiveInks();
    private final int run;
    /** The kind of call that this run makes most, so that some runs come far with each. */
    private final int often;
    private int calls = 0;
    private int step = 0;

    private NaiveTest(int run) {
        this.run = run;
        often = run % KINDS;
        random = new Random(run);
    }

    public static void main(String[] args) {
        for (int run = 0; run < RUNS; run++) {
            NaiveTest test = new NaiveTest(run);
            test.tellJob();
            while (test.calls + CALLS_OF_STEP <= LAST_CALL) {
                test.call();
            }
        }
        Checks.finish();
    }

    private void same(String call, long got, long want) {
        calls++;
        Checks.due("run " + run + ": " + call, got, want);
    }

    private int below(int n) {
        return random.nextInt(n);
    }

    /** Mostly least .. most, now and then one beyond, seldom far away. */
    private int about(int least, int most) {
        switch (below(40)) {
            case 0:
                return least - 1;
            case 1:
                return most + 1;
            case 2:
                return below(5) == 0 ? random.nextInt() : least;
            case 3:
                return most;
            default:
                return least + below(most - least + 1);
        }
    }

    private void tell(String text) {
        same("end 0", x.end(0), naive.end(0));
        String whole = text.length() > 880 ? text.substring(0, 880) : text;
        for (int at = 0; at < whole.length(); at += 20) {
            int[] fed = new int[5];
            for (int i = 0; i < 20; i++) {
                int b = at + i < whole.length() ? whole.charAt(at + i) : ' ';
                fed[i / 4] = fed[i / 4] << 8 | b & 255;
            }
            same("feed", x.feed(fed[0], fed[1], fed[2], fed[3], fed[4]), naive.feed(fed));
        }
        same("end", x.end(whole.length()), naive.end(whole.length()));
    }

    private String blanks() {
        return below(6) == 0 ? "\n " : " ";
    }

    private String ink() {
        return below(60) == 0 ? "green" : INKS[below(4)];
    }

    private String number(int least, int most) {
        if (below(150) == 0) {
            return below(2) == 0 ? "-" : "00000";
        }
        int value = below(60) == 0 ? most + 1 : least + below(most - least + 1);
        return below(10) == 0 ? "0" + value : "" + value;
    }

    private String signed(int most) {
        return (below(3) == 0 ? below(5) == 0 ? "- " : "-" : "") + number(0, most);
    }

    private String clause(int small) {
        switch (below(14)) {
            case 0:
                return "slack" + blanks() + number(0, small);
            case 1:
                return "turns" + blanks() + number(0, 4);
            case 2:
                return "white " + number(0, 99);
            case 3:
                return "over " + number(0, 99);
            case 4:
            case 5:
                return "mark " + number(0, 60) + blanks() + number(0, 60);
            case 6:
            case 7:
                return "screw " + ink() + blanks() + signed(20) + " " + signed(5) + " " + signed(20);
            case 8:
            case 9:
                return "box " + ink() + " " + number(0, 15) + " " + number(0, 15) + " " + number(1, 9) + " " + number(1, 9);
            case 10:
            case 11:
                return "screen " + number(1, 30) + " " + number(1, 30);
            default:
                return "lies " + ink() + " " + ink() + " " + number(0, 100);
        }
    }

    private String jobText() {
        StringBuilder text = new StringBuilder();
        if (below(2) == 0) {
            text.append("sheet " + number(60, 200) + blanks() + number(60, 200) + ";");
        }
        int small = below(2) == 0 ? 1 : 9;
        int clauses = below(26);
        for (int i = 0; i < clauses; i++) {
            text.append(clause(small)).append(";").append(below(3) == 0 ? blanks() : "");
        }
        if (below(12) == 0) {
            text.append(below(2) == 0 ? "sheet 100 100;" : "oh");
        }
        if (text.length() > 0 && below(8) == 0) {
            text.setCharAt(below(text.length()), (char) (below(2) == 0 ? below(256) : " \n;-0z".charAt(below(6))));
        }
        if (text.length() > 0 && below(16) == 0) {
            text.setLength(below(text.length()));
        }
        return text.toString();
    }

    private void tellJob() {
        tell(jobText());
        same("job", x.job(), naive.job());
        step = 0;
    }

    private void call() {
        switch (below(2) == 0 ? often : below(KINDS)) {
            case 0:
                if (below(4) == 0) {
                    tellJob();
                }
                break;
            case 1:
                jobCalls();
                break;
            case 2:
            case 3:
                readingCalls();
                break;
            case 4:
                fitCalls();
                break;
            case 5:
                mendCalls();
                break;
            case 6:
                shapeCalls();
                break;
            case 7:
                proofCalls();
                break;
            case 8:
                causeCalls();
                break;
            case 9:
                haltCalls();
                break;
            case 10:
                tissueCalls();
                break;
            default:
                screenCalls();
        }
        tapeCalls();
    }

    private void tapeCalls() {
        int what = about(0, 4);
        same("count " + what, x.count(what), naive.count(what));
        what = about(0, 1);
        same("fault " + what, x.fault(what), naive.fault(what));
        if (below(20) == 0) {
            int n = about(0, 40);
            same("end " + n, x.end(n), naive.end(n));
        }
    }

    private void jobCalls() {
        int what = about(0, 80);
        same("told " + what, x.told(what), naive.told(what));
        int ink = about(0, 3);
        int k = about(0, 2);
        int part = about(0, 2);
        same("screw " + ink + " " + k + " " + part, x.screw(ink, k, part), naive.screw(ink, k, part));
    }

    private void readingCalls() {
        step += below(3) == 0 ? below(4) : 0;
        int told = below(15) == 0 ? about(0, 999) : step;
        if (told > step && told <= 999 && below(4) > 0) {
            told = step;
        }
        int ink = about(0, 1);
        int mark = about(0, 3);
        int across = below(20) == 0 ? about(-99, 99) : about(-3, 9);
        int up = below(20) == 0 ? about(-99, 99) : about(-3, 9);
        if (below(3) > 0) {
            same("read " + told, x.read(told, ink, mark, across, up), naive.read(told, ink, mark, across, up));
        } else {
            int k = about(0, 6);
            same("right " + told + " " + k, x.right(told, k, across, up), naive.right(told, k, across, up));
        }
    }

    private void fitCalls() {
        if (below(6) > 0) {
            return;
        }
        int ink = about(0, 1);
        int known = below(10) == 0 ? about(0, 999) : about(0, step + 1);
        int what = below(2) == 0 ? 0 : below(2) == 0 ? about(10, 13) : about(20, 23);
        same("fit " + ink + " " + known + " " + what, x.fit(ink, known, what), naive.fit(ink, known, what));
        same("sure " + ink + " " + known, x.sure(ink, known), naive.sure(ink, known));
    }

    private void mendCalls() {
        int a = about(-9, 9);
        int b = about(-9, 9);
        int r = about(-9, 9);
        int s = about(0, 9);
        int px = about(0, 200);
        int py = about(0, 200);
        int what = about(0, 1);
        same("shift", x.shift(a, b, r, s, px, py, what), naive.shift(a, b, r, s, px, py, what));
        int ink = about(0, 3);
        same("mend " + ink + " " + a + " " + b + " " + r + " " + s, x.mend(ink, a, b, r, s), naive.mend(ink, a, b, r, s));
        for (int k = -1; k <= 3; k++) {
            same("turned " + k, x.turned(k), naive.turned(k));
        }
        int plate = about(1, 3);
        same("pulled", x.pulled(plate, px), naive.pulled(plate, px));
    }

    private void shapeCalls() {
        int one = about(0, 3);
        int two = about(0, 3);
        int k = about(-2, 2);
        int l = about(-2, 2);
        int i = about(-2, 2);
        int j = about(-2, 2);
        int what = about(0, 2);
        int y = about(0, 15);
        same("shape " + one + " " + k + " " + y, x.shape(one, k, y), naive.shape(one, k, y));
        same("seen", x.seen(one, two, k, l, i, j, what), naive.seen(one, two, k, l, i, j, what));
        int d = about(0, 2);
        if (below(5) == 0) {
            same("worst", x.worst(one, two, k, l, d), naive.worst(one, two, k, l, d));
        }
        if (below(20) == 0) {
            same("best " + one + " " + two + " " + d, x.best(one, two, d), naive.best(one, two, d));
        }
        what = about(0, 1);
        same("spread " + what, x.spread(what), naive.spread(what));
    }

    private void proofCalls() {
        if (below(8) == 0) {
            same("sign", x.sign(), naive.sign());
        }
        int blue = about(0, 24);
        int red = about(0, 24);
        int yellow = about(0, 24);
        int black = about(0, 24);
        same("held", x.held(blue, red, yellow, black), naive.held(blue, red, yellow, black));
    }

    private void causeCalls() {
        StringBuilder text = new StringBuilder();
        int size = below(10) == 0 ? below(27) : below(6);
        int slope = below(3) == 0 ? below(110) - 55 : 0;
        int jump = below(3) == 0 ? below(30) : 0;
        int e = below(4) == 0 ? about(0, 99) : below(4);
        for (int k = 0; k < size; k++) {
            int value = slope * k + (k > size / 2 ? jump : 0) + below(2 * Math.min(Math.max(e, 0), 99) + 2);
            text.append(below(30) == 0 ? about(-999, 999) : value).append(blanks());
        }
        if (below(12) == 0) {
            text.append("-;x,9".charAt(below(5)));
        }
        tell(text.toString());
        same("causes " + e + " of " + text, x.causes(e), naive.causes(e));
    }

    private void haltCalls() {
        int n = about(1, below(20) == 0 ? 8 : 5);
        n = n == 8 && below(4) > 0 ? 4 : n;
        int off = about(0, 6);
        int spoil = below(2) == 0 ? about(0, 999) : below(20);
        int price = below(2) == 0 ? about(0, 999) : below(60);
        int up = below(11);
        int down = about(0, 10 - up);
        String call = n + " " + off + " " + spoil + " " + price + " " + up + " " + down;
        same("cost " + call, x.cost(n, off, spoil, price, up, down), naive.cost(n, off, spoil, price, up, down));
        same("halt " + call, x.halt(n, off, spoil, price, up, down), naive.halt(n, off, spoil, price, up, down));
    }

    private void tissueCalls() {
        StringBuilder text = new StringBuilder();
        int size = below(10) == 0 ? below(22) : 1 + below(7);
        for (int k = 0; k < size; k++) {
            text.append(below(60) == 0 ? about(0, 99) : below(60)).append(blanks());
        }
        if (below(15) == 0) {
            text.append("-;x,9".charAt(below(5)));
        }
        tell(text.toString());
        int step = about(1, 20);
        int target = below(2) == 0 ? about(0, 120) : 40 + below(30);
        int t = about(0, 20);
        String call = "tissue " + step + " " + target + " " + t + " of " + text;
        same(call, x.tissue(step, target, t), naive.tissue(step, target, t));
        for (int k = -2; k < 21; k++) {
            same("layers " + k + " behind " + call, x.layers(k), naive.layers(k));
        }
    }

    private void screenCalls() {
        int k = about(0, 4);
        int l = about(0, 4);
        same("beat " + k + " " + l, x.beat(k, l), naive.beat(k, l));
        int what = about(0, 4);
        same("order " + what, x.order(what), naive.order(what));
        if (below(8) == 0) {
            same("setting " + what, x.setting(what), naive.setting(what));
        }
        int order = below(2) == 0 ? about(0, 9999) : 1000 * below(4) + 100 * below(4) + 10 * below(4) + below(4);
        same("sum " + order, x.sum(order), naive.sum(order));
    }
}
