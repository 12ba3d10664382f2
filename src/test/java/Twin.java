import java.util.LinkedHashMap;
import java.util.Map;
import java.util.function.Supplier;
import java.util.function.ToLongFunction;

/** A press amid its work, and all that can be asked of it: held against a second one that was made alike. */
final class Twin {
    /** The STEP at which busy() was told something last. */
    static final int LATEST = 5;
    static final String JOB = "sheet 120 90; mark 0 0; mark 120 90; mark 60 45; slack 2; turns 3; white 4; over 2;"
        + "screw blue 1 0 0; screw blue 0 -1 2; screw red 3 -3 1; box blue 2 2 5 5; box red 7 2 5 5; box black 0 15 16 1;"
        + "screen 10 1; screen 8 6; screen 5 9; screen 1 10; screen 20 20; lies blue red 50; lies black yellow 0;";

    private Twin() {
    }

    /** One that has all there is: a JOB, a FAULT behind it, READINGS, what each call told, a PROOF, bytes on the tape. */
    static FourInks busy() {
        FourInks x = Checks.told(JOB);
        Checks.put(x, "slack 10;");
        x.job();
        x.read(3, 0, 0, 2, -3);
        x.read(LATEST, 1, 1, 1, 4);
        x.right(LATEST, 0, 3, -2);
        x.mend(0, 9, 5, -3, 2);
        x.best(0, 1, 1);
        Checks.put(x, "10 25 10");
        x.tissue(10, 30, 5);
        x.sign();
        Checks.put(x, "slack 7;");
        return x;
    }

    /** A press whose READINGS and puttings RIGHT are all that there may be. */
    static FourInks full() {
        FourInks x = busy();
        for (int i = 2; i < 24; i++) {
            x.read(LATEST, i % 4, i % 3, i % 5, i % 7);
        }
        for (int i = 1; i < 20; i++) {
            x.right(LATEST, i, i % 4, i % 3);
        }
        return x;
    }

    /** All that can be asked; the last of it changes the press, which is of no use then. */
    static Map<String, Long> look(FourInks x) {
        Map<String, Long> seen = new LinkedHashMap<>();
        lookAtJob(x, seen);
        for (int what = 0; what < 5; what++) {
            seen.put("count " + what, (long) x.count(what));
        }
        seen.put("fault 0", (long) x.fault(0));
        seen.put("fault 1", (long) x.fault(1));
        for (int ink = 0; ink < 4; ink++) {
            seen.put("fit " + ink, (long) x.fit(ink, 999, 0));
            seen.put("fit " + ink + " earlier", (long) x.fit(ink, LATEST - 1, 0));
        }
        lookAtWhatWasTold(x, seen);
        seen.put("held", (long) x.held(12, 12, 12, 12));
        seen.put("held shifted", (long) x.held(13, 7, 24, 0));
        seen.put("read at a step ahead of the latest", (long) x.read(LATEST - 1, 2, 0, 1, 1));
        seen.put("read at the latest step", (long) x.read(LATEST, 2, 0, 1, 1));
        seen.put("job of the tape", (long) x.job());
        seen.put("slack of the tape", (long) x.told(3));
        return seen;
    }

    private static void lookAtJob(FourInks x, Map<String, Long> seen) {
        for (int what = 0; what < 78; what++) {
            boolean others = what % 10 > 7 && (what < 20 || what >= 40) && what != 8;
            if (!others) {
                seen.put("told " + what, (long) x.told(what));
            }
        }
        for (int i = 0; i < 36; i++) {
            seen.put("screw " + i, (long) x.screw(i / 9, i / 3 % 3, i % 3));
        }
        for (int i = 0; i < 64; i++) {
            seen.put("shape " + i, (long) x.shape(i / 16, 0, i % 16));
        }
    }

    private static void lookAtWhatWasTold(FourInks x, Map<String, Long> seen) {
        for (int k = 0; k < 3; k++) {
            seen.put("turned " + k, (long) x.turned(k));
        }
        seen.put("spread 0", (long) x.spread(0));
        seen.put("spread 1", (long) x.spread(1));
        for (int k = -1; k < 4; k++) {
            seen.put("layers " + k, (long) x.layers(k));
        }
    }

    private static void same(String call, Map<String, Long> got, Map<String, Long> want) {
        for (String asked : want.keySet()) {
            Checks.due(asked + " behind " + call, got.get(asked), want.get(asked));
        }
    }

    /** Behind the call all is as if it had never come. */
    static void unchanged(String call, Supplier<FourInks> maker, ToLongFunction<FourInks> made) {
        FourInks x = maker.get();
        made.applyAsLong(x);
        same(call, look(x), look(maker.get()));
    }

    /** The call answers so, and behind it all is as if it had never come. */
    static void refused(String call, Supplier<FourInks> maker, long due, ToLongFunction<FourInks> made) {
        Checks.due(call, made.applyAsLong(maker.get()), due);
        unchanged(call, maker, made);
    }

    /** The call answers so, and behind it the tape is empty, but all else as it was. */
    static void emptied(String call, Supplier<FourInks> maker, long due, ToLongFunction<FourInks> made) {
        FourInks x = maker.get();
        Checks.due(call, made.applyAsLong(x), due);
        FourInks twin = maker.get();
        twin.end(0);
        same(call, look(x), look(twin));
    }

    /** The text is no JOB, and behind it the FAULT is its own and the tape empty, but all else as it was. */
    static void faulty(String text, Supplier<FourInks> maker, int kind, int place) {
        FourInks x = maker.get();
        Checks.put(x, text);
        Checks.due("job " + text, x.job(), FourInks.NONE);
        FourInks twin = maker.get();
        twin.end(0);
        Map<String, Long> want = look(twin);
        want.put("fault 0", (long) kind);
        want.put("fault 1", (long) place);
        same("job " + text, look(x), want);
    }
}
