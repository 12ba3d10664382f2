import java.util.LinkedHashMap;
import java.util.Map;
import java.util.function.ToLongFunction;

/** Calls that tell something alone change nothing, whether they are refused or not. */
public final class UnchangedTest {
    private static final Map<String, ToLongFunction<FourInks>> CALLS = new LinkedHashMap<>();

    public static void main(String[] args) {
        jobCalls();
        slipCalls();
        shapeCalls();
        haltCalls();
        screenCalls();
        CALLS.forEach((call, made) -> Twin.unchanged(call, Twin::busy, made));
        CALLS.forEach((call, made) -> Twin.unchanged(call + " of a full one", Twin::full, made));
        CALLS.forEach((call, made) -> Twin.unchanged(call + " of a new one", FourInks::new, made));
        twiceTheSame();
        twoObjects();
        Checks.finish();
    }

    private static void jobCalls() {
        CALLS.put("fault 0", x -> x.fault(0));
        CALLS.put("fault 2", x -> x.fault(2));
        CALLS.put("told 0", x -> x.told(0));
        CALLS.put("told 9", x -> x.told(9));
        CALLS.put("screw", x -> x.screw(0, 1, 1));
        CALLS.put("screw out of range", x -> x.screw(0, 3, 1));
        CALLS.put("count 4", x -> x.count(4));
        CALLS.put("count 5", x -> x.count(5));
    }

    private static void slipCalls() {
        CALLS.put("shift", x -> x.shift(9, -9, 9, 9, 200, 200, 0));
        CALLS.put("shift out of range", x -> x.shift(10, 0, 0, 0, 0, 0, 0));
        CALLS.put("fit", x -> x.fit(0, 0, 0));
        CALLS.put("least of a fit", x -> x.fit(1, 999, 10));
        CALLS.put("fit out of range", x -> x.fit(4, 0, 0));
        CALLS.put("sure", x -> x.sure(1, 999));
        CALLS.put("sure out of range", x -> x.sure(0, 1000));
        CALLS.put("turned", x -> x.turned(0));
        CALLS.put("turned 9", x -> x.turned(9));
        CALLS.put("pulled", x -> x.pulled(3, 200));
        CALLS.put("pulled out of range", x -> x.pulled(0, 200));
    }

    private static void shapeCalls() {
        CALLS.put("shape spread", x -> x.shape(0, 2, 3));
        CALLS.put("shape choked", x -> x.shape(1, -2, 3));
        CALLS.put("shape out of range", x -> x.shape(0, 3, 3));
        CALLS.put("seen", x -> x.seen(1, 0, 2, -2, 2, -2, 2));
        CALLS.put("seen out of range", x -> x.seen(1, 1, 0, 0, 0, 0, 0));
        CALLS.put("worst", x -> x.worst(1, 0, 2, -2, 2));
        CALLS.put("worst out of range", x -> x.worst(1, 0, 2, -2, 3));
        CALLS.put("spread", x -> x.spread(0));
        CALLS.put("spread 2", x -> x.spread(2));
        CALLS.put("held", x -> x.held(0, 24, 4, 20));
        CALLS.put("held out of range", x -> x.held(0, 24, 4, 25));
    }

    private static void haltCalls() {
        CALLS.put("cost", x -> x.cost(8, 6, 999, 500, 5, 5));
        CALLS.put("cost out of range", x -> x.cost(9, 6, 999, 500, 5, 5));
        CALLS.put("halt", x -> x.halt(8, 6, 999, 500, 5, 5));
        CALLS.put("halt out of range", x -> x.halt(8, 7, 999, 500, 5, 5));
        CALLS.put("layers", x -> x.layers(0));
        CALLS.put("sum of layers", x -> x.layers(-1));
        CALLS.put("layers 20", x -> x.layers(20));
    }

    private static void screenCalls() {
        CALLS.put("beat", x -> x.beat(0, 4));
        CALLS.put("beat out of range", x -> x.beat(0, 5));
        CALLS.put("setting", x -> x.setting(0));
        CALLS.put("setting out of range", x -> x.setting(5));
        CALLS.put("order", x -> x.order(4));
        CALLS.put("order out of range", x -> x.order(5));
        CALLS.put("sum", x -> x.sum(3210));
        CALLS.put("sum out of range", x -> x.sum(3211));
    }

    /** A call that changes nothing tells the same again, also behind all others of its kind. */
    private static void twiceTheSame() {
        FourInks x = Twin.full();
        Map<String, Long> first = new LinkedHashMap<>();
        CALLS.forEach((call, made) -> first.put(call, made.applyAsLong(x)));
        CALLS.forEach((call, made) -> Checks.due(call + " again", made.applyAsLong(x), first.get(call)));
    }

    /** An object knows nothing of another. */
    private static void twoObjects() {
        FourInks x = new FourInks();
        FourInks other = Twin.full();
        Checks.due("its tape", x.count(4), 0);
        Checks.due("its readings", x.count(1), 0);
        Checks.due("its width", x.told(0), 100);
        Checks.due("its PROOF", x.held(12, 12, 12, 12), -4);
        Checks.due("its layers", x.layers(-1), -1);
        Checks.put(x, "white 5;");
        Checks.due("its job", x.job(), 1);
        Checks.due("the other's white", other.told(6), 4);
        Checks.due("the other's readings", other.count(1), 24);
    }
}
