import java.util.ArrayList;
import java.util.Arrays;
import java.util.HashMap;
import java.util.HashSet;
import java.util.List;
import java.util.Map;
import java.util.Set;
import java.util.TreeMap;

/** The document's calls a second time, each tried by brute force with the Java library. */
final class NaiveInks {
    private static final List<String> INKS = List.of("blue", "red", "yellow", "black");
    private static final Map<String, String> FORMS = new HashMap<>();

    static {
        FORMS.put("sheet", "10-200 10-200");
        FORMS.put("mark", "0-width 0-height");
        FORMS.put("slack", "0-9");
        FORMS.put("screw", "INK v20 v20 v20");
        FORMS.put("turns", "0-4");
        FORMS.put("box", "INK 0-15 0-15 1-16 1-16");
        FORMS.put("white", "0-99");
        FORMS.put("over", "0-99");
        FORMS.put("screen", "1-30 1-30");
        FORMS.put("lies", "INK INK 0-100");
    }

    private static final class Refusal extends RuntimeException {
        private static final long serialVersionUID = 1L;
        final int kind;
        final int place;

        Refusal(int kind, int place) {
            this.kind = kind;
            this.place = place;
        }
    }

    private record Token(String text, int place, boolean good) {
        boolean isNumber() {
            return good && !text.isEmpty() && Character.isDigit(text.charAt(0));
        }
    }

    private record Reading(int step, int ink, int mark, List<int[]> known) {
    }

    private StringBuilder tape = new StringBuilder();
    /** Clauses as rows of numbers, by their first WORD. */
    private Map<String, List<int[]>> job = new TreeMap<>();
    private int faultKind = 0;
    private int faultPlace = -1;
    private final List<Reading> readings = new ArrayList<>();
    private int latest = 0;
    private int rights = 0;
    private int[] turned = new int[0];
    private int[] spread = null;
    private int[] layers = null;
    private List<Set<Integer>> proof = null;

    int feed(int... ints) {
        if (tape.length() + 20 > 900) {
            return -3;
        }
        for (int four : ints) {
            for (int i = 3; i >= 0; i--) {
                tape.append((char) (four >>> 8 * i & 255));
            }
        }
        return tape.length();
    }

    int end(int n) {
        if (n < 0 || n > tape.length()) {
            return -1;
        }
        tape.setLength(n);
        return n;
    }

    // ---- the job

    private static List<Token> tokens(String text) {
        List<Token> all = new ArrayList<>();
        int at = 0;
        while (at < text.length()) {
            char c = text.charAt(at);
            if (c == ' ' || c == '\n') {
                at++;
                continue;
            }
            int from = at;
            String run = c >= 'a' && c <= 'z' ? "[a-z]" : c >= '0' && c <= '9' ? "[0-9]" : null;
            at++;
            while (run != null && at < text.length() && text.substring(at, at + 1).matches(run)) {
                at++;
            }
            String token = text.substring(from, at);
            all.add(new Token(token, from, token.matches("[a-z]{1,8}|[0-9]{1,4}|;|-")));
        }
        all.add(new Token("", text.length(), true));
        return all;
    }

    int job() {
        String text = tape.toString();
        tape.setLength(0);
        faultKind = 0;
        faultPlace = -1;
        Map<String, List<int[]>> fresh = new TreeMap<>();
        try {
            parse(tokens(text), fresh);
        } catch (Refusal refusal) {
            faultKind = refusal.kind;
            faultPlace = refusal.place;
            return -1;
        }
        job = fresh;
        readings.clear();
        latest = 0;
        rights = 0;
        turned = new int[0];
        spread = null;
        layers = null;
        return count(0);
    }

    private static void parse(List<Token> tokens, Map<String, List<int[]>> fresh) {
        int at = 0;
        while (!tokens.get(at).text.isEmpty()) {
            Token word = tokens.get(at++);
            String form = word.good ? FORMS.get(word.text) : null;
            if (form == null) {
                throw new Refusal(1, word.place);
            }
            List<int[]> told = fresh.getOrDefault(word.text, new ArrayList<>());
            boolean once = List.of("sheet", "slack", "turns", "white", "over").contains(word.text);
            boolean eight = List.of("mark", "box", "screen").contains(word.text);
            if (once && !told.isEmpty()) {
                throw new Refusal(3, word.place);
            }
            if (eight && told.size() == 8) {
                throw new Refusal(4, word.place);
            }
            if (word.text.equals("sheet") && fresh.containsKey("mark")) {
                throw new Refusal(5, word.place);
            }
            List<Integer> numbers = new ArrayList<>();
            for (String part : form.split(" ")) {
                at = parsePart(tokens, at, part, numbers, fresh);
                checkInk(word.text, part, tokens.get(at - 1), numbers, told);
            }
            if (!tokens.get(at).text.equals(";")) {
                throw new Refusal(1, tokens.get(at).place);
            }
            at++;
            told.add(numbers.stream().mapToInt(i -> i).toArray());
            fresh.put(word.text, told);
        }
    }

    private static int parsePart(List<Token> tokens, int from, String part, List<Integer> numbers,
            Map<String, List<int[]>> fresh) {
        int at = from;
        if (part.equals("INK")) {
            int ink = INKS.indexOf(tokens.get(at).text);
            if (ink < 0) {
                throw new Refusal(1, tokens.get(at).place);
            }
            numbers.add(ink);
            return at + 1;
        }
        boolean minus = part.startsWith("v") && tokens.get(at).text.equals("-");
        at += minus ? 1 : 0;
        Token token = tokens.get(at);
        if (!token.isNumber()) {
            throw new Refusal(1, token.place);
        }
        int[] sheet = fresh.containsKey("sheet") ? fresh.get("sheet").get(0) : new int[] {100, 100};
        String bounds = part.replace("width", "" + sheet[0]).replace("height", "" + sheet[1]).replace("v", "0-");
        int value = Integer.parseInt(token.text);
        int least = Integer.parseInt(bounds.split("-")[0]);
        int most = Integer.parseInt(bounds.split("-")[1]);
        if (value < least || value > most) {
            throw new Refusal(2, token.place);
        }
        numbers.add(minus ? -value : value);
        return at + 1;
    }

    private static void checkInk(String word, String part, Token token, List<Integer> numbers, List<int[]> told) {
        if (!part.equals("INK")) {
            return;
        }
        int same = 0;
        for (int[] clause : told) {
            boolean like = clause[0] == numbers.get(0) && (numbers.size() < 2 || clause[1] == numbers.get(1));
            same += like ? 1 : 0;
        }
        if (word.equals("screw") && same == 3) {
            throw new Refusal(4, token.place);
        }
        if (word.equals("lies") && numbers.size() == 2 && (same > 0 || numbers.get(0).equals(numbers.get(1)))) {
            throw new Refusal(3, token.place);
        }
    }

    int fault(int what) {
        return what == 0 ? faultKind : what == 1 ? faultPlace : -1;
    }

    private List<int[]> clauses(String word) {
        return job.getOrDefault(word, List.of());
    }

    private int only(String word, int part, int without) {
        return clauses(word).isEmpty() ? without : clauses(word).get(0)[part];
    }

    private List<int[]> screws(int ink) {
        List<int[]> all = new ArrayList<>();
        for (int[] clause : clauses("screw")) {
            if (clause[0] == ink) {
                all.add(Arrays.copyOfRange(clause, 1, 4));
            }
        }
        return all;
    }

    private int stays(int on, int ink) {
        for (int[] clause : clauses("lies")) {
            if (clause[0] == on && clause[1] == ink) {
                return clause[2];
            }
        }
        return 100;
    }

    int told(int what) {
        Map<Integer, Integer> all = new HashMap<>();
        all.put(0, only("sheet", 0, 100));
        all.put(1, only("sheet", 1, 100));
        all.put(2, clauses("mark").size());
        all.put(3, only("slack", 0, 1));
        all.put(4, only("turns", 0, 2));
        all.put(5, clauses("box").size());
        all.put(6, only("white", 0, 3));
        all.put(7, only("over", 0, 1));
        all.put(8, clauses("screen").size());
        for (int i = 0; i < 4; i++) {
            all.put(10 + i, screws(i).size());
            for (int j = 0; j < 4; j++) {
                all.put(20 + 4 * i + j, i == j ? -1 : stays(i, j));
            }
        }
        for (int k = 0; k < clauses("mark").size(); k++) {
            all.put(40 + k, clauses("mark").get(k)[0]);
            all.put(50 + k, clauses("mark").get(k)[1]);
        }
        for (int k = 0; k < clauses("screen").size(); k++) {
            all.put(60 + k, clauses("screen").get(k)[0]);
            all.put(70 + k, clauses("screen").get(k)[1]);
        }
        return all.getOrDefault(what, -1);
    }

    int screw(int ink, int k, int what) {
        boolean good = in(ink, 0, 3) && in(k, 0, screws(ink).size() - 1) && in(what, 0, 2);
        return good ? screws(ink).get(k)[what] : -99;
    }

    // ---- slips

    private static boolean in(int number, int least, int most) {
        return least <= number && number <= most;
    }

    private static boolean slip(int a, int b, int r, int s) {
        return in(a, -9, 9) && in(b, -9, 9) && in(r, -9, 9) && in(s, 0, 9);
    }

    private static int moved(int a, int b, int r, int s, int x, int y, int what) {
        int hundredths = what == 0 ? s * x - r * y : r * x + s * y;
        int sign = hundredths < 0 ? -1 : 1;
        return (what == 0 ? a : b) + sign * (Math.abs(hundredths) / 100);
    }

    int shift(int a, int b, int r, int s, int x, int y, int what) {
        boolean good = slip(a, b, r, s) && in(x, 0, 200) && in(y, 0, 200) && in(what, 0, 1);
        return good ? moved(a, b, r, s, x, y, what) : -9999;
    }

    private boolean tells(int step, int across, int up) {
        return in(step, latest, 999) && in(across, -99, 99) && in(up, -99, 99);
    }

    int read(int step, int ink, int mark, int across, int up) {
        if (!tells(step, across, up) || !in(ink, 0, 3) || !in(mark, 0, clauses("mark").size() - 1)) {
            return -2;
        }
        if (readings.size() == 24) {
            return -3;
        }
        latest = step;
        List<int[]> known = new ArrayList<>();
        known.add(new int[] {step, across, up});
        readings.add(new Reading(step, ink, mark, known));
        return readings.size() - 1;
    }

    int right(int step, int k, int across, int up) {
        if (!tells(step, across, up) || !in(k, 0, readings.size() - 1)) {
            return -2;
        }
        if (rights == 20) {
            return -3;
        }
        latest = step;
        rights++;
        readings.get(k).known.add(new int[] {step, across, up});
        return readings.get(k).known.size() - 1;
    }

    private List<int[]> slips(int ink, int known) {
        List<int[]> asKnown = new ArrayList<>();
        for (Reading reading : readings) {
            if (reading.ink == ink && reading.step <= known) {
                int[] last = null;
                for (int[] one : reading.known) {
                    last = one[0] <= known ? one : last;
                }
                int[] mark = clauses("mark").get(reading.mark);
                asKnown.add(new int[] {mark[0], mark[1], last[1], last[2]});
            }
        }
        List<int[]> all = new ArrayList<>();
        for (int i = 0; i < 19 * 19 * 19 * 10; i++) {
            int[] one = {i % 19 - 9, i / 19 % 19 - 9, i / 361 % 19 - 9, i / 6859};
            if (fits(one, asKnown)) {
                all.add(one);
            }
        }
        return all;
    }

    private boolean fits(int[] one, List<int[]> asKnown) {
        int slack = only("slack", 0, 1);
        for (int[] seen : asKnown) {
            int across = moved(one[0], one[1], one[2], one[3], seen[0], seen[1], 0);
            int up = moved(one[0], one[1], one[2], one[3], seen[0], seen[1], 1);
            if (Math.abs(across - seen[2]) > slack || Math.abs(up - seen[3]) > slack) {
                return false;
            }
        }
        return true;
    }

    int fit(int ink, int known, int what) {
        boolean ofNumber = in(what, 10, 13) || in(what, 20, 23);
        if (!in(ink, 0, 3) || !in(known, 0, 999) || what != 0 && !ofNumber) {
            return -99;
        }
        List<int[]> all = slips(ink, known);
        if (what == 0) {
            return all.size();
        }
        var numbers = all.stream().mapToInt(one -> one[what % 10]);
        return what < 20 ? numbers.min().orElse(-99) : numbers.max().orElse(-99);
    }

    int sure(int ink, int known) {
        if (!in(ink, 0, 3) || !in(known, 0, 999)) {
            return -2;
        }
        List<int[]> all = slips(ink, known);
        int bits = 0;
        for (int i = 0; i < 4; i++) {
            int number = i;
            bits |= all.stream().mapToInt(one -> one[number]).distinct().count() == 1 ? 1 << i : 0;
        }
        return all.isEmpty() ? -1 : bits;
    }

    int mend(int ink, int a, int b, int r, int s) {
        if (!in(ink, 0, 3) || !slip(a, b, r, s)) {
            return -2;
        }
        List<int[]> rows = new ArrayList<>();
        allRows(new int[screws(ink).size()], 0, rows);
        int[] best = null;
        for (int[] row : rows) {
            int[] rank = rank(row, screws(ink), a, b, r, s);
            best = best == null || Arrays.compare(rank, best) < 0 ? rank : best;
        }
        turned = Arrays.copyOfRange(best, 2, best.length);
        return best[0];
    }

    private void allRows(int[] row, int at, List<int[]> rows) {
        if (at == row.length) {
            rows.add(row.clone());
            return;
        }
        int turns = only("turns", 0, 2);
        for (row[at] = turns; row[at] >= -turns; row[at]--) {
            int kept = row[at];
            allRows(row, at + 1, rows);
            row[at] = kept;
        }
    }

    private int[] rank(int[] row, List<int[]> screws, int a, int b, int r, int s) {
        int[] slip = {a, b, r};
        int[] rank = new int[row.length + 2];
        for (int k = 0; k < row.length; k++) {
            for (int i = 0; i < 3; i++) {
                slip[i] += row[k] * screws.get(k)[i];
            }
            rank[1] += Math.abs(row[k]);
            rank[k + 2] = row[k];
        }
        for (int[] mark : clauses("mark")) {
            for (int what = 0; what < 2; what++) {
                rank[0] = Math.max(rank[0], Math.abs(moved(slip[0], slip[1], slip[2], s, mark[0], mark[1], what)));
            }
        }
        return rank;
    }

    int turned(int k) {
        return in(k, 0, turned.length - 1) ? turned[k] : -99;
    }

    int pulled(int k, int x) {
        return in(k, 1, 3) && in(x, 0, 200) ? k * x / 100 : -2;
    }

    // ---- shapes: sets of 100 y + x

    private Set<Integer> cells(int ink) {
        Set<Integer> all = new HashSet<>();
        for (int[] box : clauses("box")) {
            for (int i = 0; i < box[3] * box[4] && box[0] == ink; i++) {
                put(all, box[1] + i % box[3], box[2] + i / box[3]);
            }
        }
        return all;
    }

    private static void put(Set<Integer> cells, int x, int y) {
        if (in(x, 0, 15) && in(y, 0, 15)) {
            cells.add(100 * y + x);
        }
    }

    private static List<Integer> beside(int cell) {
        Set<Integer> all = new HashSet<>();
        put(all, cell % 100 + 1, cell / 100);
        put(all, cell % 100 - 1, cell / 100);
        put(all, cell % 100, cell / 100 + 1);
        put(all, cell % 100, cell / 100 - 1);
        return new ArrayList<>(all);
    }

    private static Set<Integer> grown(Set<Integer> cells, int k) {
        Set<Integer> now = cells;
        for (int i = 0; i < Math.abs(k); i++) {
            Set<Integer> next = new HashSet<>();
            for (int cell : now) {
                if (k > 0) {
                    next.add(cell);
                    next.addAll(beside(cell));
                } else if (now.containsAll(beside(cell))) {
                    next.add(cell);
                }
            }
            now = next;
        }
        return now;
    }

    private static Set<Integer> shifted(Set<Integer> cells, int i, int j) {
        Set<Integer> all = new HashSet<>();
        for (int cell : cells) {
            put(all, cell % 100 + i, cell / 100 + j);
        }
        return all;
    }

    int shape(int ink, int k, int y) {
        if (!in(ink, 0, 3) || !in(k, -2, 2) || !in(y, 0, 15)) {
            return -2;
        }
        int bits = 0;
        for (int cell : grown(cells(ink), k)) {
            bits |= cell / 100 == y ? 1 << cell % 100 : 0;
        }
        return bits;
    }

    private static boolean pair(int one, int two) {
        return in(one, 0, 3) && in(two, 0, 3) && one != two;
    }

    int seen(int one, int two, int k, int l, int i, int j, int what) {
        boolean good = pair(one, two) && in(k, -2, 2) && in(l, -2, 2) && in(i, -2, 2) && in(j, -2, 2) && in(what, 0, 2);
        if (!good) {
            return -2;
        }
        Set<Integer> first = grown(cells(one), k);
        Set<Integer> second = shifted(grown(cells(two), l), i, j);
        Set<Integer> white = new HashSet<>(cells(one));
        white.addAll(cells(two));
        white.removeAll(first);
        white.removeAll(second);
        Set<Integer> over = new HashSet<>(first);
        over.retainAll(second);
        Set<Integer> both = new HashSet<>(cells(one));
        both.retainAll(cells(two));
        over.removeAll(both);
        int seen = only("white", 0, 3) * white.size() + only("over", 0, 1) * over.size();
        return what == 0 ? white.size() : what == 1 ? over.size() : seen;
    }

    int worst(int one, int two, int k, int l, int d) {
        if (!pair(one, two) || !in(k, -2, 2) || !in(l, -2, 2) || !in(d, 0, 2)) {
            return -2;
        }
        int worst = 0;
        for (int i = -d; i <= d; i++) {
            for (int j = -d; j <= d; j++) {
                worst = Math.max(worst, seen(one, two, k, l, i, j, 2));
            }
        }
        return worst;
    }

    int best(int one, int two, int d) {
        if (!pair(one, two) || !in(d, 0, 2)) {
            return -2;
        }
        int[] best = null;
        for (int k = 2; k >= -2; k--) {
            for (int l = 2; l >= -2; l--) {
                int[] rank = {worst(one, two, k, l, d), Math.abs(k) + Math.abs(l), k, l};
                best = best == null || Arrays.compare(rank, best) < 0 ? rank : best;
            }
        }
        spread = new int[] {best[2], best[3]};
        return best[0];
    }

    int spread(int what) {
        return spread == null || !in(what, 0, 1) ? -99 : spread[what];
    }

    int sign() {
        proof = new ArrayList<>();
        Set<Integer> all = new HashSet<>();
        for (int ink = 0; ink < 4; ink++) {
            proof.add(cells(ink));
            all.addAll(cells(ink));
        }
        return all.size();
    }

    int held(int... codes) {
        for (int code : codes) {
            if (!in(code, 0, 24)) {
                return -2;
            }
        }
        if (proof == null) {
            return -4;
        }
        Set<Integer> unlike = new HashSet<>();
        for (int ink = 0; ink < 4; ink++) {
            Set<Integer> now = shifted(cells(ink), codes[ink] % 5 - 2, codes[ink] / 5 - 2);
            for (int cell = 0; cell < 1600; cell++) {
                if (now.contains(cell) != proof.get(ink).contains(cell)) {
                    unlike.add(cell);
                }
            }
        }
        return unlike.size();
    }

    // ---- runs

    private int[] row(boolean signs, int most, int room) {
        List<Token> tokens = tokens(tape.toString());
        tape.setLength(0);
        List<Integer> row = new ArrayList<>();
        int at = 0;
        while (!tokens.get(at).text.isEmpty()) {
            boolean minus = signs && tokens.get(at).text.equals("-");
            at += minus ? 1 : 0;
            if (!tokens.get(at).isNumber() || Integer.parseInt(tokens.get(at).text) > most) {
                return null;
            }
            int value = Integer.parseInt(tokens.get(at++).text);
            row.add(minus ? -value : value);
        }
        return row.isEmpty() || row.size() > room ? null : row.stream().mapToInt(i -> i).toArray();
    }

    private static boolean level(int[] row, int from, int to, int step, int e) {
        for (int level = -2400; level <= 2400; level++) {
            boolean good = true;
            for (int k = from; k < to && good; k++) {
                good = Math.abs(row[k] - level - k * step) <= e;
            }
            if (good) {
                return true;
            }
        }
        return false;
    }

    int causes(int e) {
        int[] row = row(true, 999, 24);
        if (!in(e, 0, 99)) {
            return -2;
        }
        if (row == null) {
            return -1;
        }
        if (level(row, 0, row.length, 0, e)) {
            return 1;
        }
        int bits = 0;
        for (int to = 1; to < row.length; to++) {
            bits |= level(row, 0, to, 0, e) && level(row, to, row.length, 0, e) ? 2 : 0;
        }
        for (int step = -50; step <= 50; step++) {
            bits |= step != 0 && level(row, 0, row.length, step, e) ? 4 : 0;
        }
        return bits;
    }

    private static boolean blocks(int n, int off, int spoil, int price, int up, int down) {
        return in(n, 1, 8) && in(off, 0, 6) && in(spoil, 0, 999) && in(price, 0, 999)
            && in(up, 0, 10) && in(down, 0, 10) && up + down <= 10;
    }

    private static long power(int n) {
        return n == 0 ? 1 : 10 * power(n - 1);
    }

    private static long going(int n, int off, int spoil, int price, int up, int down) {
        long behind = 0;
        if (n > 1) {
            behind = up == 0 ? 0 : up * mean(n - 1, Math.min(6, off + 1), spoil, price, up, down);
            behind += down == 0 ? 0 : down * mean(n - 1, Math.max(0, off - 1), spoil, price, up, down);
            int stay = 10 - up - down;
            behind += stay == 0 ? 0 : stay * mean(n - 1, off, spoil, price, up, down);
        }
        return spoil * off * power(n) + behind;
    }

    private static long halting(int n, int spoil, int price, int up, int down) {
        return price * power(n) + going(n, 0, spoil, price, up, down);
    }

    private static long mean(int n, int off, int spoil, int price, int up, int down) {
        return Math.min(going(n, off, spoil, price, up, down), halting(n, spoil, price, up, down));
    }

    long cost(int n, int off, int spoil, int price, int up, int down) {
        return blocks(n, off, spoil, price, up, down) ? mean(n, off, spoil, price, up, down) : -2;
    }

    int halt(int n, int off, int spoil, int price, int up, int down) {
        if (!blocks(n, off, spoil, price, up, down)) {
            return -2;
        }
        return halting(n, spoil, price, up, down) < going(n, off, spoil, price, up, down) ? 1 : 0;
    }

    int tissue(int step, int target, int t) {
        int[] greys = row(false, 99, 20);
        if (!in(step, 1, 20) || !in(target, 0, 120) || !in(t, 0, 20)) {
            return -2;
        }
        if (greys == null) {
            return -1;
        }
        // of all rows with the same last zone the best one alone may go on, whatever comes behind
        Map<Integer, int[]> best = new HashMap<>();
        best.put(0, new int[] {0, 0});
        for (int grey : greys) {
            Map<Integer, int[]> next = new HashMap<>();
            for (int n = 0; n <= 9; n++) {
                for (int ahead : best.keySet()) {
                    if (in(grey + n * step, target - t, target + t)) {
                        int[] old = best.get(ahead);
                        int[] rank = Arrays.copyOf(old, old.length + 1);
                        rank[0] += Math.max(0, n - ahead);
                        rank[1] += n;
                        rank[old.length] = n;
                        next.merge(n, rank, (p, q) -> Arrays.compare(p, q) < 0 ? p : q);
                    }
                }
            }
            best = next;
        }
        int[] least = best.values().stream().min(Arrays::compare).orElse(null);
        if (least == null) {
            return -1;
        }
        layers = Arrays.copyOfRange(least, 2, least.length);
        return least[0];
    }

    int layers(int k) {
        if (layers == null) {
            return -1;
        }
        return k == -1 ? Arrays.stream(layers).sum() : in(k, 0, layers.length - 1) ? layers[k] : -1;
    }

    // ---- screens and orders

    int beat(int k, int l) {
        List<int[]> all = clauses("screen");
        if (!in(k, 0, all.size() - 1) || !in(l, 0, all.size() - 1)) {
            return -2;
        }
        int p = all.get(l)[0];
        int q = all.get(l)[1];
        int least = Integer.MAX_VALUE;
        for (int turn = 0; turn < 4; turn++) {
            int across = all.get(k)[0] - p;
            int up = all.get(k)[1] - q;
            least = Math.min(least, across * across + up * up);
            int old = p;
            p = -q;
            q = old;
        }
        return least;
    }

    int setting(int what) {
        if (!in(what, 0, 4)) {
            return -2;
        }
        int n = clauses("screen").size();
        int[] best = null;
        for (int i = 0; i < n * n * n * n; i++) {
            int[] row = {i / n / n / n, i / n / n % n, i / n % n, i % n};
            if (Arrays.stream(row).distinct().count() == 4) {
                int least = Integer.MAX_VALUE;
                for (int pair = 0; pair < 16; pair++) {
                    least = pair / 4 == pair % 4 ? least : Math.min(least, beat(row[pair / 4], row[pair % 4]));
                }
                int[] rank = {-least, row[0], row[1], row[2], row[3]};
                best = best == null || Arrays.compare(rank, best) < 0 ? rank : best;
            }
        }
        return best == null ? -1 : what == 0 ? -best[0] : best[what];
    }

    int order(int what) {
        if (!in(what, 0, 4)) {
            return -2;
        }
        int best = 123;
        for (int order = 123; order <= 3210; order++) {
            best = sum(order) > sum(best) ? order : best;
        }
        return what == 0 ? sum(best) : String.format("%04d", best).charAt(what - 1) - '0';
    }

    int sum(int order) {
        String figures = order < 0 || order > 9999 ? "" : String.format("%04d", order);
        if (figures.chars().distinct().count() != 4 || !figures.matches("[0-3]{4}")) {
            return -2;
        }
        int sum = 0;
        for (int i = 1; i < 4; i++) {
            sum += stays(figures.charAt(i - 1) - '0', figures.charAt(i) - '0');
        }
        return sum;
    }

    int count(int what) {
        int clauses = 0;
        for (List<int[]> told : job.values()) {
            clauses += told.size();
        }
        int[] all = {clauses, readings.size(), rights, proof == null ? 0 : 1, tape.length()};
        return in(what, 0, 4) ? all[what] : -1;
    }
}
