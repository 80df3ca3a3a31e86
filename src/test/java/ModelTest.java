import java.nio.charset.StandardCharsets;
import java.util.Random;

/** Long runs of calls by chance (fixed seeds), each answer as the slow model gives it. */
public final class ModelTest {
    private static final int CALLS = 512, CHOICES = 33;

    private final Check check;
    private final Random random;
    private final NoonTrains real = new NoonTrains();
    private final SlowModel model = new SlowModel();
    private final String run;
    private int calls = 0;

    private ModelTest(Check check, long seed) {
        this.check = check;
        this.random = new Random(seed);
        this.run = "run " + seed + " ";
    }

    public static void main(String[] args) {
        int runs = args.length > 0 ? Integer.parseInt(args[0]) : 1000;
        Check check = new Check("ModelTest");
        for (int seed = 0; seed < runs && !check.isWrong(); seed++) {
            new ModelTest(check, seed).play();
        }
        check.end();
    }

    private void play() {
        // A rich timetable first, so that there is much to guess; texts by chance come later.
        boolean rich = random.nextInt(4) > 0;
        if (rich) {
            tellRich();
        }
        while (calls < CALLS - 30 && !check.isWrong()) {
            int choice = random.nextInt(200);
            if (choice < (rich ? 1 : 6)) {
                tell();
            } else if (choice < 90) {
                live();
            } else {
                call(random.nextInt(CHOICES));
            }
        }
    }

    private void due(String call, long got, long want) {
        calls++;
        check.due(run + "call " + calls + ": " + call, got, want);
    }

    private int upTo(int most) {
        return random.nextInt(most + 1);
    }

    /** Mostly a number that may fit, now and then one far off. */
    private int near(int most) {
        if (random.nextInt(40) == 0) {
            int[] far = {Integer.MIN_VALUE, Integer.MAX_VALUE, -2, -100, most + 2, 31, 32, 33, 63, 64, 200};
            return far[random.nextInt(far.length)];
        }
        return random.nextInt(most + 3) - 1;
    }

    // ---- texts

    private void tellRich() {
        int stations = 3 + upTo(4);
        write("land " + stations + ";show " + (4 + upTo(5)) + ";seeker 0 1" + (random.nextBoolean() ? ";seeker 1 2" : ""));
        due("land()", real.land(), model.land());
        for (int part = 0; part < 2; part++) {
            StringBuilder text = new StringBuilder("start 0");
            int trains = 4 + upTo(2);
            for (int i = 0; i < trains; i++) {
                text.append(';').append(trainLine((part * trains + i) % stations, stations));
            }
            write(text.toString());
            due("land()", real.land(), model.land());
        }
    }

    private void tell() {
        if (random.nextInt(3) > 0) {
            due("erase()", real.erase(), model.erase());
        }
        int stations = random.nextInt(3) > 0 ? 2 + upTo(5) : model.count(0);
        StringBuilder text = new StringBuilder();
        boolean fresh = random.nextInt(3) > 0;
        if (fresh) {
            text.append("land ").append(stations).append(';');
        } else {
            stations = model.count(0);
        }
        int lines = 1 + upTo(fresh ? 8 : 9);
        for (int i = 0; i < lines; i++) {
            text.append(i == 0 ? "" : ";").append(line(stations));
        }
        if (random.nextInt(4) == 0) {
            spoil(text);
        }
        write(text.toString());
        due("fault() of " + text, real.fault(), model.fault());
        due("land()", real.land(), model.land());
    }

    private String line(int stations) {
        int s = random.nextInt(stations);
        switch (random.nextInt(9)) {
            case 0: return "start " + s;
            case 1: return "tickets " + upTo(9) + " " + upTo(3) + " " + upTo(9);
            case 2: return "show " + (1 + random.nextInt(9));
            case 3: return "seeker " + upTo(1) + " " + s;
            default: return trainLine(s, stations);
        }
    }

    private String trainLine(int a, int stations) {
        int b = (a + 1 + random.nextInt(stations - 1)) % stations;
        int e = 1 + random.nextInt(random.nextBoolean() ? 1 : 4);
        int kind = random.nextInt(3) == 0 ? upTo(2) : 0;
        return "train " + a + " " + b + " " + e + " " + random.nextInt(e) + " "
                + (random.nextInt(5) == 0 ? 2 : 1) + " " + kind;
    }

    private void spoil(StringBuilder text) {
        int at = random.nextInt(text.length());
        String[] pieces = {";", " ", "  ", "0", "7", "12", "a", "train", ";;", "\t", "\u00e9", "A", "-", "00", " ; "};
        switch (random.nextInt(4)) {
            case 0: text.deleteCharAt(at); break;
            case 1: text.setLength(at); break;
            case 2: text.setCharAt(at, (char) random.nextInt(256)); break;
            default: text.insert(at, pieces[random.nextInt(pieces.length)]); break;
        }
    }

    private void write(String text) {
        byte[] bytes = text.getBytes(StandardCharsets.ISO_8859_1);
        int at = 0;
        while (at < bytes.length) {
            int n = Math.min(bytes.length - at, random.nextInt(5) == 0 ? 1 + random.nextInt(8) : 8);
            long packed = Check.packed(bytes, at, n);
            due("write(" + packed + ", " + n + ")", real.write(packed, n), model.write(packed, n));
            at += n;
        }
    }

    // ---- days

    private void live() {
        int can = model.he(6);
        if (can != 0 && random.nextInt(10) > 0) {
            int train = random.nextInt(12);
            while ((can >> train & 1) == 0) {
                train = (train + 1) % 12;
            }
            due("ride(" + train + ")", real.ride(train), model.ride(train));
        }
        for (int seeker = 0; seeker < 2; seeker++) {
            int at = model.seeker(seeker);
            int leaving = at < 0 ? 0 : model.runs(at, model.count(4));
            if (leaving != 0 && random.nextInt(3) > 0) {
                int train = random.nextBoolean() ? Integer.numberOfTrailingZeros(leaving)
                        : 31 - Integer.numberOfLeadingZeros(leaving);
                due("send", real.send(seeker, train), model.send(seeker, train));
            }
        }
        if (random.nextInt(4) > 0) {
            due("noon()", real.noon(), model.noon());
            due("may()", real.may(), model.may());
            due("way()", real.way(), model.way());
            due("next()", real.next(), model.next());
            due("letter()", real.letter(), model.letter());
        }
        if (model.he(2) == 1 && random.nextInt(3) > 0) {
            int k = upTo(1);
            due("back(" + k + ")", real.back(k), model.back(k));
        }
        if (model.he(2) == 1 && random.nextInt(3) > 0) {
            due("erase()", real.erase(), model.erase());
            write("show " + (1 + upTo(8)) + ";start " + random.nextInt(model.count(0)));
            due("land()", real.land(), model.land());
        }
    }

    private void call(int which) {
        int a = near(12);
        int b = near(6);
        int k = near(1);
        int p = near(10);
        int d = near(40);
        long bytes = random.nextLong();
        String with = "(" + a + ", " + b + ", " + k + ", " + p + ", " + d + ")";
        switch (which) {
            case 0: if (random.nextInt(9) == 0) due("write(" + bytes + ", " + a + ")", real.write(bytes, a), model.write(bytes, a)); break;
            case 1: if (random.nextInt(9) == 0) due("erase()", real.erase(), model.erase()); break;
            case 2: due("fault()", real.fault(), model.fault()); break;
            case 3: if (random.nextInt(9) == 0) due("land()", real.land(), model.land()); break;
            case 4: due("train" + with, real.train(a, b), model.train(a, b)); break;
            case 5: due("runs" + with, real.runs(b, d), model.runs(b, d)); break;
            case 6: due("as" + with, real.as(a, b), model.as(a, b)); break;
            case 7: due("ride" + with, real.ride(a), model.ride(a)); break;
            case 8: due("send" + with, real.send(k, a), model.send(k, a)); break;
            case 9: due("noon()", real.noon(), model.noon()); break;
            case 10: for (int what = -1; what < 8; what++) due("he(" + what + ")", real.he(what), model.he(what)); break;
            case 11: due("seeker" + with, real.seeker(k), model.seeker(k)); break;
            case 12: due("next()", real.next(), model.next()); break;
            case 13: due("shut(" + k + ")", real.shut(k), model.shut(k)); break;
            case 14: due("shut(-1)", real.shut(-1), model.shut(-1)); break;
            case 15: due("hides(" + k + ")", real.hides(k), model.hides(k)); break;
            case 16: due("chase()", real.chase(), model.chase()); break;
            case 17: due("closed(" + k + ")", real.closed(k), model.closed(k)); break;
            case 18: logSome(); break;
            case 19: due("log" + with, real.log(a), model.log(a)); break;
            case 20: if (random.nextInt(5) == 0) due("burn()", real.burn(), model.burn()); break;
            case 21: due("judge()", real.judge(), model.judge()); break;
            case 22: due("late" + with, real.late(p, d, k), model.late(p, d, k)); break;
            case 23: due("keep" + with, real.keep(k), model.keep(k)); break;
            case 24: if (random.nextBoolean()) due("back" + with, real.back(k), model.back(k)); break;
            case 25: case 26: due("keep(" + (b & 1) + ")", real.keep(b & 1), model.keep(b & 1)); break;
            case 27: if (random.nextBoolean()) due("back(" + (b & 1) + ")", real.back(b & 1), model.back(b & 1)); break;
            case 28: due("shut(" + (b & 1) + ")", real.shut(b & 1), model.shut(b & 1)); break;
            case 29: due("hides(" + (b & 1) + ")", real.hides(b & 1), model.hides(b & 1)); break;
            case 30: due("chase()", real.chase(), model.chase()); break;
            case 31: due("closed(" + (b & 1) + ")", real.closed(b & 1), model.closed(b & 1)); break;
            default: for (int what = -1; what < 9; what++) due("count(" + what + ")", real.count(what), model.count(what)); break;
        }
    }

    /** Rides that follow one another more often than chance would have it. */
    private void logSome() {
        int at = model.count(2);
        if (random.nextInt(3) == 0) {
            due("burn()", real.burn(), model.burn());
        }
        for (int i = 0; i < 6; i++) {
            int train = near(11);
            for (int turn = 0; turn < 12; turn++) {
                int other = (turn + i * 5) % 12;
                if (model.train(other, 0) == at && random.nextInt(20) > 0) {
                    train = other;
                    break;
                }
            }
            due("log(" + train + ")", real.log(train), model.log(train));
            at = Math.max(model.train(train, 1), 0);
        }
        int p = upTo(10);
        int d = random.nextInt(3) == 0 ? 40 : upTo(40);
        due("late(" + p + ", " + d + ", 0)", real.late(p, d, 0), model.late(p, d, 0));
        due("late(" + p + ", " + d + ", 1)", real.late(p, d, 1), model.late(p, d, 1));
    }
}
