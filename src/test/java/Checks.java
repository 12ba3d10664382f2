import java.util.function.IntToLongFunction;

/** What the tests share: answers that are due, and texts that are put on the tape. */
final class Checks {
    private static int wrong = 0;
    private static int made = 0;

    private Checks() {
    }

    static void due(String call, long got, long want) {
        made++;
        if (got != want) {
            wrong++;
            System.out.println(call + " answered " + got + ", due is " + want);
        }
    }

    /** The last numbers that may be, with their answers, and the first that may not, at both ends. */
    static void ends(String call, int least, long atLeast, int most, long atMost, long refusal, IntToLongFunction answer) {
        due(call + " " + least, answer.applyAsLong(least), atLeast);
        due(call + " " + most, answer.applyAsLong(most), atMost);
        beyond(call, least, most, refusal, answer);
    }

    /** The first numbers that may not be, at both ends, and the farthest ones. */
    static void beyond(String call, int least, int most, long refusal, IntToLongFunction answer) {
        int[] beyond = {least - 1, most + 1, Integer.MIN_VALUE, Integer.MAX_VALUE};
        for (int number : beyond) {
            due(call + " " + number, answer.applyAsLong(number), refusal);
        }
    }

    /** Puts a text on the tape alone. */
    static void put(FourInks x, String text) {
        x.end(0);
        for (int at = 0; at < text.length(); at += 20) {
            x.feed(four(text, at), four(text, at + 4), four(text, at + 8), four(text, at + 12), four(text, at + 16));
        }
        due("end behind " + text, x.end(text.length()), text.length());
    }

    private static int four(String text, int at) {
        int bytes = 0;
        for (int i = at; i < at + 4; i++) {
            bytes = bytes << 8 | (i < text.length() ? text.charAt(i) : ' ');
        }
        return bytes;
    }

    /** A new object with a JOB. */
    static FourInks told(String text) {
        FourInks x = new FourInks();
        put(x, text);
        if (x.job() < 0) {
            due("job " + text, FourInks.NONE, 0);
        }
        return x;
    }

    /** A new object with a text on its tape. */
    static FourInks taped(String text) {
        FourInks x = new FourInks();
        put(x, text);
        return x;
    }

    /** A text must be a JOB of so many clauses. */
    static FourInks taken(String text, int clauses) {
        FourInks x = taped(text);
        due("job " + text, x.job(), clauses);
        due("kind of " + text, x.fault(0), 0);
        due("place of " + text, x.fault(1), -1);
        due("tape behind " + text, x.count(4), 0);
        due("clauses behind " + text, x.count(0), clauses);
        return x;
    }

    /** A text must be refused with this FAULT. */
    static void refused(String text, int kind, int place) {
        FourInks x = taped(text);
        due("job " + text, x.job(), FourInks.NONE);
        due("kind of " + text, x.fault(0), kind);
        due("place of " + text, x.fault(1), place);
        due("tape behind " + text, x.count(4), 0);
        due("clauses behind " + text, x.count(0), 0);
    }

    static void finish() {
        System.out.println(wrong == 0 ? made + " answers are as due" : wrong + " answers are not as due");
        if (wrong != 0) {
            System.exit(1);
        }
    }
}
