import java.util.function.Supplier;

/** The sentences that hold for all calls: what is refused first, that asking changes nothing, 512 calls, lines as written. */
public final class EdgesInAllTest {
    private static final int NONE = -1, UNKNOWN = -2, OUTSIDE = -3, NOT = -4, FULL = -5;
    private static final int CALLS = 512;
    private static final Sentences DOC = new Sentences("EdgesInAllTest");

    /** From 0 by one NIGHT to 1, by two to 2; from 1 and 2 back; a SEEKER's ride from 3. */
    private static final String LAND = "land 4;train 0 1 1 0 1 0;train 0 2 1 0 2 1;train 1 0 1 0 1 0;train 2 0 1 0 1 2;"
            + "train 3 1 1 0 1 0;train 3 2 1 0 2 0;";

    private interface Call {
        long on(NoonTrains x);
    }

    public static void main(String[] args) {
        firstThatFits();
        foretold();
        manyCalls();
        asWritten();
        DOC.end(1, 0);
    }

    // ---- states

    private static NoonTrains caught() {
        return Check.landed(LAND + "seeker 0 0");
    }

    private static NoonTrains onTheWay() {
        NoonTrains x = Check.landed(LAND + "seeker 1 3");
        x.ride(1);
        x.noon();
        return x;
    }

    private static NoonTrains full() {
        NoonTrains x = Check.landed(LAND + "seeker 1 3");
        for (int i = 0; i < 12; i++) {
            x.log(0);
        }
        for (int i = 0; i < 25; i++) {
            x.write(0, 8);
        }
        return x;
    }

    private static NoonTrains bothToldToday() {
        NoonTrains x = Check.landed(LAND + "seeker 0 3;seeker 1 2");
        x.keep(1);
        x.ride(0);
        x.send(0, 4);
        x.send(1, 3);
        x.log(0);
        x.log(2);
        return x;
    }

    // ---- sentences

    private static void firstThatFits() {
        DOC.says("Refused, and nothing changes: UNKNOWN (no such STATION, TRAIN, SEEKER), OUTSIDE (another number is not as told), "
                + "NOT (not now: as told), FULL: the first of these that fits.");
        refused("train(6, 6)", EdgesInAllTest::onTheWay, x -> x.train(6, 6), UNKNOWN);
        refused("runs(4, -1)", EdgesInAllTest::onTheWay, x -> x.runs(4, -1), UNKNOWN);
        refused("as(-1, 4)", EdgesInAllTest::onTheWay, x -> x.as(-1, 4), UNKNOWN);
        refused("as(0, 4), none such", EdgesInAllTest::onTheWay, x -> x.as(0, 4), OUTSIDE);
        refused("as(0, 2)", EdgesInAllTest::onTheWay, x -> x.as(0, 2), NOT);
        refused("ride(6) on the way", EdgesInAllTest::onTheWay, x -> x.ride(6), UNKNOWN);
        refused("ride(6) when CAUGHT", EdgesInAllTest::caught, x -> x.ride(6), UNKNOWN);
        refused("ride(0) when CAUGHT", EdgesInAllTest::caught, x -> x.ride(0), NOT);
        refused("send(2, 0) when CAUGHT", EdgesInAllTest::caught, x -> x.send(2, 0), UNKNOWN);
        refused("send(0, 6) when CAUGHT", EdgesInAllTest::caught, x -> x.send(0, 6), UNKNOWN);
        refused("send(1, -2), nowhere and CAUGHT", EdgesInAllTest::caught, x -> x.send(1, -2), UNKNOWN);
        refused("send(0, 0) when CAUGHT", EdgesInAllTest::caught, x -> x.send(0, 0), NOT);
        refused("send(0, 6), nowhere", EdgesInAllTest::onTheWay, x -> x.send(0, 6), UNKNOWN);
        refused("send(0, NONE), nowhere", EdgesInAllTest::onTheWay, x -> x.send(0, NONE), NOT);
        refused("send(1, 5), of 2 NIGHTS", EdgesInAllTest::onTheWay, x -> x.send(1, 5), NOT);
        refused("shut(2) when CAUGHT", EdgesInAllTest::caught, x -> x.shut(2), UNKNOWN);
        refused("shut(NONE) when CAUGHT", EdgesInAllTest::caught, x -> x.shut(NONE), NOT);
        refused("hides(2) when CAUGHT", EdgesInAllTest::caught, x -> x.hides(2), OUTSIDE);
        refused("hides(-1) on the way", EdgesInAllTest::onTheWay, x -> x.hides(-1), OUTSIDE);
        refused("hides(1) on the way", EdgesInAllTest::onTheWay, x -> x.hides(1), NOT);
        refused("closed(2) on the way", EdgesInAllTest::onTheWay, x -> x.closed(2), OUTSIDE);
        refused("closed(1) on the way", EdgesInAllTest::onTheWay, x -> x.closed(1), NOT);
        refused("closed(2), nobody seeks", NoonTrains::new, x -> x.closed(2), OUTSIDE);
        refused("closed(0), nobody seeks, no TRAINS", NoonTrains::new, x -> x.closed(0), NOT);
        refused("back(2), nothing kept", EdgesInAllTest::caught, x -> x.back(2), UNKNOWN);
        refused("back(1), nothing kept", EdgesInAllTest::caught, x -> x.back(1), NOT);
        refused("log(6), no room", EdgesInAllTest::full, x -> x.log(6), UNKNOWN);
        refused("log(5), no room", EdgesInAllTest::full, x -> x.log(5), FULL);
        refused("write(59, 9), no room", EdgesInAllTest::full, x -> x.write(59, 9), OUTSIDE);
        refused("write(59, 0), no room", EdgesInAllTest::full, x -> x.write(59, 0), OUTSIDE);
        refused("write(59, 1), no room", EdgesInAllTest::full, x -> x.write(59, 1), FULL);
    }

    private static void refused(String name, Supplier<NoonTrains> state, Call call, long want) {
        NoonTrains x = state.get();
        DOC.due(name, call.on(x), want);
        DOC.holds(name + " changes nothing", Sight.ahead(x).equals(Sight.ahead(state.get())));
    }

    private static void foretold() {
        DOC.says("FORETOLD (nothing changes).");
        Call[] all = {NoonTrains::next, x -> x.shut(NONE), x -> x.shut(0), x -> x.shut(1), x -> x.hides(0), x -> x.hides(1),
            NoonTrains::chase, x -> x.closed(0), x -> x.closed(1), NoonTrains::judge, x -> x.late(5, 9, 0),
            x -> x.late(5, 9, 1), NoonTrains::letter};
        NoonTrains together = bothToldToday();
        for (int i = 0; i < all.length; i++) {
            NoonTrains alone = bothToldToday();
            DOC.holds("what call " + i + " answers is no refusal", all[i].on(alone) >= NONE);
            DOC.due("call " + i + " answers as alone", all[i].on(together), all[i].on(alone));
            DOC.holds("call " + i + " changes nothing", Sight.ahead(alone).equals(Sight.ahead(bothToldToday())));
        }
        DOC.holds("all of them change nothing", Sight.ahead(together).equals(Sight.ahead(bothToldToday())));
    }

    private static void manyCalls() {
        DOC.says("An object is used for at most 512 calls after it has been made");
        NoonTrains waits = new NoonTrains();
        long caughtOnce = 0;
        for (int i = 1; i < CALLS; i++) {
            caughtOnce |= waits.noon();
        }
        DOC.due("511 noons", caughtOnce, 0);
        DOC.due("DAY by the 512th call", waits.count(4), CALLS - 1);
        NoonTrains x = bothToldToday();
        int days = x.chase();
        int closed = x.closed(1);
        int wrong = 0;
        for (int i = 0; i < 200; i++) {
            wrong += x.chase() == days ? 0 : 1;
            wrong += x.closed(1) == closed ? 0 : 1;
        }
        DOC.due("foretold otherwise than at first", wrong, 0);
        NoonTrains writes = new NoonTrains();
        for (int i = 0; i < CALLS - 2; i += 3) {
            wrong += writes.write(0x3320646e616cL, 6) == 6 ? 0 : 1;
            wrong += writes.fault() == NONE ? 0 : 1;
            wrong += writes.land() == 1 ? 0 : 1;
        }
        DOC.due("texts done otherwise than the first", wrong, 0);
    }

    private static void asWritten() {
        DOC.says("(As written here, without points;");
        String[] lines = {"land 4", "train 0 1 1 0 1 0", "start 2", "tickets 1 2 3", "show 9", "seeker 1 2"};
        for (String line : lines) {
            fault(line, NONE);
            fault(line + ".", line.length());
            fault(line + " .", line.length() + 1);
            fault(line.substring(0, line.length() - 2), line.length() - 2);
            fault(line + " 0", line.length() + 1);
            fault(line + " " + line, line.length() + 1);
            fault(line + ";" + line, NONE);
            fault(line.substring(0, 1).toUpperCase() + line.substring(1), 0);
            fault(line.substring(0, 2), 0);
            fault("a" + line, 0);
            fault(line.replaceFirst(" ", "s "), 0);
        }
    }

    private static void fault(String text, int want) {
        NoonTrains x = new NoonTrains();
        Check.write(x, text);
        DOC.due("fault() of " + text, x.fault(), want);
    }
}
