import java.util.Random;

/**
 * Runs by chance (fixed seeds) on two objects: one gets every call, the other only those that change something
 * and were not refused. A refused call, and one that only asks, changes nothing, so both stay the same.
 */
public final class RefusedTest {
    private static final int RUNS = 600, STEPS = 90, REFUSED = -2;

    private final Random random;
    private final Check check;
    private final NoonTrains all = new NoonTrains();
    private final NoonTrains few = new NoonTrains();
    private final String run;

    private interface Call {
        long on(NoonTrains x);
    }

    private RefusedTest(Check check, long seed) {
        this.check = check;
        random = new Random(seed);
        run = "run " + seed + ": ";
    }

    public static void main(String[] args) {
        Check check = new Check("RefusedTest");
        for (int seed = 0; seed < RUNS && !check.isWrong(); seed++) {
            new RefusedTest(check, seed).play();
        }
        check.end();
    }

    private void play() {
        tell("land 5;seeker 0 3;seeker 1 4;show " + (1 + random.nextInt(9)) + ";tickets 9 " + random.nextInt(9) + " 3");
        for (int step = 0; step < STEPS; step++) {
            if (random.nextInt(25) == 0) {
                tell(line() + ";" + line() + ";" + line());
            } else if (random.nextInt(3) > 0) {
                change();
            } else {
                ask();
            }
        }
        check.holds(run + "both are the same", Sight.ahead(all).equals(Sight.ahead(few)));
    }

    private void both(String name, Call call) {
        long answer = call.on(all);
        if (answer > REFUSED) {
            check.due(run + name, call.on(few), answer);
        }
    }

    private void tell(String text) {
        both("erase()", NoonTrains::erase);
        for (int at = 0; at < text.length(); at += 8) {
            String piece = text.substring(at, Math.min(text.length(), at + 8));
            both("write " + piece, x -> Check.write(x, piece));
        }
        both("land() of " + text, NoonTrains::land);
    }

    private String line() {
        int from = random.nextInt(5);
        int every = 1 + random.nextInt(3);
        String[] lines = {"start " + from, "seeker " + random.nextInt(2) + " " + from, "tickets 9 9 " + from, "land 5", "tram"};
        return random.nextInt(6) > 0 ? "train " + from + " " + (from + 1 + random.nextInt(4)) % 5 + " " + every + " "
                + random.nextInt(every) + " " + (1 + random.nextInt(8) / 7) + " " + random.nextInt(3)
                : lines[random.nextInt(lines.length)];
    }

    private int near(int most) {
        return random.nextInt(most + 4) - 2;
    }

    private void change() {
        int a = near(11);
        int k = near(1);
        switch (random.nextInt(14)) {
            case 0: both("write", x -> x.write(0x3b35776f6873L, a)); break;
            case 1: both("land()", NoonTrains::land); break;
            case 2: case 3: case 4: both("ride(" + a + ")", x -> x.ride(a)); break;
            case 5: case 6: both("send(" + k + ", " + a + ")", x -> x.send(k, a)); break;
            case 7: case 8: case 9: both("noon()", NoonTrains::noon); break;
            case 10: case 11: both("log(" + a + ")", x -> x.log(a)); break;
            case 12: both("keep(" + k + ")", x -> x.keep(k)); break;
            default: both("back(" + k + ")", x -> x.back(k)); break;
        }
    }

    /** Asked of one object alone. */
    private void ask() {
        int a = near(11);
        switch (random.nextInt(12)) {
            case 0: all.fault(); break;
            case 1: all.train(a, near(5)); break;
            case 2: all.runs(a, near(40)); break;
            case 3: all.as(a, near(3)); break;
            case 4: all.he(a); break;
            case 5: all.next(); break;
            case 6: all.shut(near(1)); break;
            case 7: all.hides(near(1)); break;
            case 8: all.chase(); break;
            case 9: all.closed(near(1)); break;
            case 10: all.judge(); break;
            default: all.late(near(10), near(40), near(1)); break;
        }
    }
}
