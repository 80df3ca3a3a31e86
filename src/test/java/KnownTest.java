import java.util.ArrayList;
import java.util.List;
import java.util.Random;

/**
 * What is KNOWN, taken at its first word: all that HE can have done since DAY 0 is tried, ride by ride, and what the
 * SEEKERS know rules out the rest. Games by chance (fixed seeds); nothing is taken over from noon to noon.
 */
public final class KnownTest {
    private static final int GAMES = 500, DAYS = 8, NONE = -1;
    private static final Sentences DOC = new Sentences("KnownTest");

    /** What the SEEKERS know of a DAY. */
    private static final class Day {
        int kindUsed = NONE;
        int[] seekers;
        boolean caught;
        boolean shows;
        int shownAt;
        boolean shownOnWay;
    }

    private final Random random;
    private final NoonTrains x;
    private final List<Day> known = new ArrayList<>();
    private final String game;
    private final int[][] trains;
    private final int start;
    private final int[] told = new int[3];
    private int mayBits;
    private int wayBits;
    private int nextBits;

    private KnownTest(long seed) {
        random = new Random(seed);
        game = "game " + seed + ", DAY ";
        x = tell();
        trains = new int[x.count(1)][6];
        for (int i = 0; i < trains.length; i++) {
            for (int what = 0; what < 6; what++) {
                trains[i][what] = x.train(i, what);
            }
        }
        start = x.count(2);
        for (int kind = 0; kind < 3; kind++) {
            told[kind] = x.he(3 + kind);
        }
    }

    public static void main(String[] args) {
        DOC.says("KNOWN to SEEKERS are TRAINS, START, TICKETS told, of each DAY the KIND that HE used, or that HE used none, "
                + "that HE was not CAUGHT, and where HE was (at which STATION, or on the way) on DAYS on which HE shows himself. "
                + "MAY: STATIONS at which HE may be by all that, by bits; ON THE WAY: STATIONS to which HE may be on the way.");
        for (int seed = 0; seed < GAMES; seed++) {
            new KnownTest(seed).play();
        }
        DOC.end(1, 0);
    }

    // ---- a game

    private NoonTrains tell() {
        int stations = 3 + random.nextInt(5);
        String first = "land " + stations + ";start " + random.nextInt(stations) + ";show " + (2 + random.nextInt(8))
                + ";tickets " + few() + " " + few() + " " + few();
        for (int seeker = 0; seeker < 2; seeker++) {
            if (random.nextInt(3) > 0) {
                first += ";seeker " + seeker + " " + random.nextInt(stations);
            }
        }
        return Check.landed(first, trainLines(stations), trainLines(stations));
    }

    private int few() {
        return random.nextInt(3) == 0 ? random.nextInt(3) : 9;
    }

    private String trainLines(int stations) {
        StringBuilder text = new StringBuilder();
        for (int i = 0; i < 6; i++) {
            int from = random.nextInt(stations);
            int every = random.nextInt(3) > 0 ? 1 : 1 + random.nextInt(4);
            text.append(i == 0 ? "" : ";").append("train ").append(from).append(' ')
                    .append((from + 1 + random.nextInt(stations - 1)) % stations).append(' ')
                    .append(every).append(' ').append(random.nextInt(every)).append(' ')
                    .append(random.nextInt(3) > 0 ? 1 : 2).append(' ').append(random.nextInt(5) / 2);
        }
        return text.toString();
    }

    private void play() {
        look();
        for (int day = 0; day < DAYS && x.he(2) == 0; day++) {
            int train = one(x.he(6));
            if (train != NONE) {
                x.ride(train);
                known.get(day).kindUsed = trains[train][5];
            }
            for (int seeker = 0; seeker < 2; seeker++) {
                if (x.seeker(seeker) != NONE) {
                    x.send(seeker, one(x.runs(x.seeker(seeker), day)));
                }
            }
            x.noon();
            look();
        }
    }

    /** One of some trains by chance, or NONE. */
    private int one(int bits) {
        int train = random.nextInt(12);
        for (int turn = 0; turn < 12; turn++) {
            if ((bits >> (train + turn) % 12 & 1) != 0) {
                return (train + turn) % 12;
            }
        }
        return NONE;
    }

    private void look() {
        Day day = new Day();
        day.seekers = new int[] {x.seeker(0), x.seeker(1)};
        day.caught = x.he(2) == 1;
        day.shows = x.count(4) % x.count(3) == 0;
        day.shownAt = x.he(0);
        day.shownOnWay = x.he(1) == 1;
        known.add(day);
        int today = known.size() - 1;
        tryAll(today);
        DOC.due(game + today + ": may()", x.may(), mayBits);
        DOC.due(game + today + ": way()", x.way(), wayBits);
        DOC.due(game + today + ": next()", x.next(), nextBits);
        if (today > 0) {
            tryAll(today - 1);
        }
        DOC.due(game + today + ": letter()", x.letter(), today > 0 ? nextBits : 1 << start);
    }

    // ---- all that HE can have done

    private void tryAll(int last) {
        mayBits = 0;
        wayBits = 0;
        nextBits = 0;
        go(0, last, start, false, told.clone());
    }

    private void go(int t, int last, int at, boolean onWay, int[] tickets) {
        if (!fits(known.get(t), at, onWay)) {
            return;
        }
        if (t == last) {
            mayBits |= onWay ? 0 : 1 << at;
            wayBits |= onWay ? 1 << at : 0;
        }
        boolean rides = false;
        for (int[] train : onWay ? new int[0][] : trains) {
            if (train[0] == at && t % train[2] == train[3] && tickets[train[5]] > 0) {
                rides = true;
                tickets[train[5]]--;
                on(t, last, train[1], train[4] == 2, train[5], tickets);
                tickets[train[5]]++;
            }
        }
        if (!rides) {
            on(t, last, at, false, NONE, tickets);
        }
    }

    /** HE is there a noon behind t, by a ticket of a KIND or none. */
    private void on(int t, int last, int at, boolean onWay, int kind, int[] tickets) {
        if (t == last) {
            nextBits |= onWay ? 0 : 1 << at;
        } else if (known.get(t).kindUsed == kind) {
            go(t + 1, last, at, onWay, tickets);
        }
    }

    private static boolean fits(Day day, int at, boolean onWay) {
        if (day.shows || day.caught) {
            return at == day.shownAt && onWay == day.shownOnWay;
        }
        return onWay || at != day.seekers[0] && at != day.seekers[1];
    }
}
