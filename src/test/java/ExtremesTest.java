import java.util.LinkedHashMap;
import java.util.Map;
import java.util.function.Supplier;

/**
 * Every call in every sort of state, with arguments at and beyond all edges: none throws or fails to end,
 * each answer is one that the call can give, and what is refused or only asked changes nothing.
 */
public final class ExtremesTest {
    private static final int NONE = -1, UNKNOWN = -2, FULL = -5;
    private static final int LOW = Integer.MIN_VALUE, HIGH = Integer.MAX_VALUE;
    private static final long PATIENCE = 120_000;

    private static final int[] WIDE = {LOW, LOW + 1, -256, -13, -9, -8, -7, -6, -5, -4, -3, -2, -1, 0, 1, 2, 3, 4, 5, 6, 7, 8, 9,
        10, 11, 12, 13, 31, 32, 33, 40, 41, 63, 64, 200, 201, 255, 256, 65536, HIGH - 1, HIGH};
    private static final int[] FEW = {LOW, -32, -2, -1, 0, 1, 2, 3, 7, 8, 11, 12, 32, 41, HIGH};
    private static final long[] BYTES = {Long.MIN_VALUE, Long.MIN_VALUE + 1, -1, 0, 1, 59, 255, 256, Integer.MAX_VALUE,
        Integer.MIN_VALUE, 0x3520776f6873L, Long.MAX_VALUE - 1, Long.MAX_VALUE};

    private static final Check CHECK = new Check("ExtremesTest");

    private interface Call {
        long on(NoonTrains x);
    }

    private String state;
    private Supplier<NoonTrains> builder;
    private String untouched;

    public static void main(String[] args) {
        watch();
        for (Map.Entry<String, Supplier<NoonTrains>> one : states().entrySet()) {
            ExtremesTest test = new ExtremesTest();
            test.state = one.getKey();
            test.builder = one.getValue();
            test.untouched = Sight.ahead(test.builder.get());
            test.told();
            test.noons();
            test.foretold();
            test.log();
        }
        CHECK.end();
    }

    /** A call that does not end would hold up the whole run, so a watch ends it as failed. */
    private static void watch() {
        Thread watch = new Thread(() -> {
            try {
                Thread.sleep(PATIENCE);
            } catch (InterruptedException e) {
                return;
            }
            System.out.println("ExtremesTest: a call does not end");
            Runtime.getRuntime().halt(1);
        });
        watch.setDaemon(true);
        watch.start();
    }

    // ---- states

    private static final String RING = "land 7;train 0 1 1 0 1 0;train 1 2 1 0 1 1;train 2 0 1 0 2 2;train 3 0 4 3 1 0;train 3 4 1 0 1 0;";

    private static Map<String, Supplier<NoonTrains>> states() {
        Map<String, Supplier<NoonTrains>> all = new LinkedHashMap<>();
        all.put("new", NoonTrains::new);
        all.put("told", () -> Check.landed(RING + "seeker 0 3;seeker 1 4;show 3"));
        all.put("rides told", ExtremesTest::ridesTold);
        all.put("nobody seeks", () -> moved(Check.landed(RING + "tickets 9 1 2"), 0, 1));
        all.put("on the way", () -> moved(Check.landed(RING + "seeker 1 3"), 0, 1, 2));
        all.put("caught at once", () -> Check.landed(RING + "seeker 0 0;seeker 1 0"));
        all.put("caught later", () -> moved(Check.landed(RING + "seeker 1 2"), 0, 1));
        all.put("no tickets", () -> moved(Check.landed(RING + "tickets 1 0 0;seeker 0 3"), 0, NONE, NONE));
        all.put("no trains", () -> Check.landed("land 7;start 6;seeker 0 5"));
        all.put("most trains", ExtremesTest::mostTrains);
        all.put("full text and log", ExtremesTest::full);
        all.put("kept", ExtremesTest::kept);
        all.put("a faulty text", ExtremesTest::faulty);
        all.put("a late day", ExtremesTest::lateDay);
        return all;
    }

    private static NoonTrains moved(NoonTrains x, int... trains) {
        for (int train : trains) {
            x.ride(train);
            if (x.noon() < 0) {
                throw new IllegalStateException("train " + train + " can not be ridden");
            }
        }
        return x;
    }

    private static NoonTrains ridesTold() {
        NoonTrains x = Check.landed(RING + "seeker 0 3;seeker 1 3");
        x.ride(0);
        x.send(1, 4);
        return x;
    }

    private static NoonTrains mostTrains() {
        StringBuilder text = new StringBuilder("start 0");
        for (int i = 0; i < 7; i++) {
            text.append(";train ").append(i).append(' ').append((i + 1) % 7).append(" 1 0 1 ").append(i % 3);
        }
        return moved(Check.landed(RING + "seeker 0 6;seeker 1 6;tickets 9 9 9", text.toString(), "start 3"), 4, 9);
    }

    private static NoonTrains full() {
        NoonTrains x = Check.landed(RING + "seeker 0 6;start 1");
        for (int i = 0; i < 12; i++) {
            x.log(i % 5);
        }
        for (int i = 0; i < 25; i++) {
            x.write(0x3b3a2f607b617a30L, 8);
        }
        return x;
    }

    private static NoonTrains kept() {
        NoonTrains x = Check.landed(RING + "seeker 0 3;seeker 1 2");
        x.keep(1);
        moved(x, 0);
        x.send(0, 4);
        x.keep(0);
        x.log(0);
        x.log(1);
        return moved(x, 1);
    }

    private static NoonTrains faulty() {
        NoonTrains x = Check.landed(RING + "seeker 0 3");
        Check.write(x, "land 2;train 0 1 1 0 1 0;start 2");
        return x;
    }

    private static NoonTrains lateDay() {
        NoonTrains x = Check.landed("land 3;train 0 1 1 0 1 0;train 1 2 4 3 1 1;seeker 0 0;start 1;tickets 9 0 9");
        for (int i = 0; i < 200; i++) {
            x.noon();
        }
        return x;
    }

    // ---- calls

    private void told() {
        for (int n : WIDE) {
            for (long bytes : BYTES) {
                changes("write(" + bytes + ", " + n + ")", 1, 200, x -> x.write(bytes, n));
            }
        }
        changes("erase()", 0, 200, NoonTrains::erase);
        asks("fault()", NONE, 200, NoonTrains::fault);
        changes("land()", 1, 10, NoonTrains::land);
        for (int a : FEW) {
            for (int b : WIDE) {
                asks("train(" + a + ", " + b + ")", 0, 6, x -> x.train(a, b));
                asks("runs(" + a + ", " + b + ")", 0, 4095, x -> x.runs(a, b));
                asks("as(" + a + ", " + b + ")", 0, 2, x -> x.as(a, b));
            }
        }
    }

    private void noons() {
        for (int a : WIDE) {
            changes("ride(" + a + ")", 0, 6, x -> x.ride(a));
            asks("he(" + a + ")", 0, 4095, x -> x.he(a));
            asks("seeker(" + a + ")", NONE, 6, x -> x.seeker(a));
            for (int b : FEW) {
                changes("send(" + b + ", " + a + ")", 0, 6, x -> x.send(b, a));
            }
        }
        changes("noon()", 0, 1, NoonTrains::noon);
        asks("may()", 0, 127, NoonTrains::may);
        asks("way()", 0, 127, NoonTrains::way);
        asks("next()", 0, 127, NoonTrains::next);
        asks("letter()", 0, 127, NoonTrains::letter);
    }

    private void foretold() {
        for (int a : WIDE) {
            asks("shut(" + a + ")", NONE, 6, x -> x.shut(a));
            asks("hides(" + a + ")", NONE, 14, x -> x.hides(a));
            asks("closed(" + a + ")", NONE, 12, x -> x.closed(a));
        }
        asks("chase()", NONE, 12, NoonTrains::chase);
    }

    private void log() {
        for (int a : WIDE) {
            changes("log(" + a + ")", 1, 12, x -> x.log(a));
            changes("keep(" + a + ")", 0, 512, x -> x.keep(a));
            changes("back(" + a + ")", 0, 512, x -> x.back(a));
            asks("count(" + a + ")", 0, 512, x -> x.count(a));
        }
        changes("burn()", 0, 12, NoonTrains::burn);
        asks("judge()", NONE, 11, NoonTrains::judge);
        for (int p : FEW) {
            for (int d : WIDE) {
                for (int part = NONE; part <= 2; part++) {
                    int which = part;
                    asks("late(" + p + ", " + d + ", " + part + ")", 0, 1000000000000L, x -> x.late(p, d, which));
                }
                asks("late(" + p + ", " + d + ", " + d + ")", 0, 1000000000000L, x -> x.late(p, d, d));
            }
        }
    }

    private void changes(String name, long least, long most, Call call) {
        look(name, least, most, call, false);
    }

    private void asks(String name, long least, long most, Call call) {
        look(name, least, most, call, true);
    }

    private void look(String name, long least, long most, Call call, boolean asks) {
        NoonTrains x = builder.get();
        long answer;
        try {
            answer = call.on(x);
        } catch (RuntimeException | Error e) {
            CHECK.holds(state + ": " + name + " threw " + e, false);
            return;
        }
        boolean refused = answer <= UNKNOWN && answer >= FULL;
        CHECK.holds(state + ": " + name + " answered " + answer, refused || answer >= least && answer <= most);
        if (asks || refused) {
            CHECK.holds(state + ": " + name + " answered " + answer + " and changed something",
                    Sight.ahead(x).equals(untouched));
        }
    }
}
