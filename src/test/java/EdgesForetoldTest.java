/** What is foretold, the log, lateness, images: each sentence that names an edge of them, promises 18 to 28. */
public final class EdgesForetoldTest {
    private static final int NONE = -1, UNKNOWN = -2, OUTSIDE = -3, NOT = -4, FULL = -5;
    private static final int LOW = Integer.MIN_VALUE, HIGH = Integer.MAX_VALUE;

    private static final Sentences DOC = new Sentences("EdgesForetoldTest");

    /** Three STATIONS, each with TRAINS to both others: one SEEKER alone never has him. */
    private static final String TRIANGLE = "land 4;train 0 1 1 0 1 0;train 0 2 1 0 1 0;train 1 0 1 0 1 0;train 1 2 1 0 1 0;"
            + "train 2 0 1 0 1 0;train 2 1 1 0 1 0;";

    public static void main(String[] args) {
        shutMost();
        shutFirst();
        hidesMost();
        hidesLeast();
        chaseSeen();
        chaseDays();
        chaseTwelve();
        closedLeast();
        logAndJudged();
        lateChances();
        lateDays();
        shut();
        hides();
        chase();
        closed();
        logAndBurn();
        judge();
        late();
        keep();
        back();
        count();
        DOC.end(18, 28);
    }

    private static void due(String call, long got, long want) {
        DOC.due(call, got, want);
    }

    private static void shutIs(NoonTrains x, int most, int zero, int one) {
        due("shut(NONE)", x.shut(NONE), most);
        due("shut(0)", x.shut(0), zero);
        due("shut(1)", x.shut(1), one);
    }

    private static void hidesIs(NoonTrains x, int train, int many) {
        due("hides(0)", x.hides(0), train);
        due("hides(1)", x.hides(1), many);
    }

    private static void closedIs(NoonTrains x, int train, int days) {
        due("closed(0)", x.closed(0), train);
        due("closed(1)", x.closed(1), days);
    }

    private static void lateIs(NoonTrains x, int p, int d, long above, long below) {
        due("late(" + p + ", " + d + ", 0)", x.late(p, d, 0), above);
        due("late(" + p + ", " + d + ", 1)", x.late(p, d, 1), below);
    }

    private static NoonTrains logged(NoonTrains x, int... trains) {
        for (int train : trains) {
            x.log(train);
        }
        return x;
    }

    private static NoonTrains onTheWay() {
        NoonTrains x = Check.landed("land 3;train 0 1 1 0 2 0;seeker 0 2");
        x.ride(0);
        x.noon();
        return x;
    }

    // ---- SHUT

    private static void shutMost() {
        DOC.says("SHUT: SEEKERS ride or stay so that the most of NEXT have one of them: how many, where the i-th is then");
        String star = "land 7;train 0 1 1 0 1 0;train 0 2 1 0 1 1;train 5 1 1 0 1 0;train 6 1 1 0 1 0;";
        shutIs(Check.landed(star + "train 6 2 1 0 1 0;seeker 0 5;seeker 1 6"), 2, 1, 2);
        shutIs(Check.landed(star + "train 5 2 1 0 1 0;seeker 0 5;seeker 1 6"), 2, 2, 1);
        shutIs(Check.landed(star + "seeker 0 5;seeker 1 6"), 1, 1, 1);
        shutIs(Check.landed(star + "seeker 0 1;seeker 1 2"), 2, 1, 2);
        shutIs(Check.landed(star + "train 6 2 1 0 2 0;seeker 0 5;seeker 1 6"), 1, 1, 1);
        shutIs(Check.landed(star + "train 6 2 2 1 1 0;seeker 0 5;seeker 1 6"), 1, 1, 1);
        shutIs(Check.landed(star + "train 6 2 1 0 1 2;seeker 0 5;seeker 1 6;tickets 1 1 0"), 2, 1, 2);
        shutIs(Check.landed(star + "seeker 0 5;seeker 1 6;tickets 0 1 0"), 0, 1, 1);
        shutIs(Check.landed(star + "train 6 0 1 0 1 0;seeker 0 5;seeker 1 6;tickets 0 0 0"), 1, 1, 0);
        NoonTrains way = Check.landed("land 4;train 0 1 1 0 2 0;train 2 1 1 0 1 0;seeker 0 2");
        way.ride(0);
        way.noon();
        shutIs(way, 1, 1, NONE);
    }

    private static void shutFirst() {
        DOC.says("of several the first by STATIONS of SEEKER 0, then 1; who is nowhere is nowhere");
        String fan = "land 7;train 0 1 1 0 1 0;train 0 2 1 0 1 1;train 0 3 1 0 1 2;";
        String from6 = "train 6 3 1 0 1 0;train 6 2 1 0 1 0;train 6 1 1 0 1 0;";
        shutIs(Check.landed(fan + from6 + "seeker 0 6;seeker 1 6"), 2, 1, 2);
        shutIs(Check.landed(fan + from6 + "seeker 0 6;seeker 1 1"), 2, 2, 1);
        shutIs(Check.landed(fan + from6 + "seeker 0 6"), 1, 1, NONE);
        shutIs(Check.landed(fan + from6 + "seeker 1 6"), 1, NONE, 1);
        shutIs(Check.landed(fan + "train 6 4 1 0 1 0;seeker 0 6;seeker 1 6"), 0, 4, 4);
        shutIs(Check.landed(fan + "train 4 6 1 0 1 0;seeker 0 4;seeker 1 4"), 0, 4, 4);
        shutIs(Check.landed(fan + "train 6 0 1 0 1 0;seeker 0 6;seeker 1 3"), 1, 0, 3);
        shutIs(new NoonTrains(), 0, NONE, NONE);
    }

    // ---- HIDES

    private static void hidesMost() {
        DOC.says("HIDES: of TRAINS that HE can RIDE today that by whose KIND there are the most STATIONS at which HE may be then, and to which HE may be on the way, together (by what is KNOWN, SEEKERS left out of nothing)");
        String fan = "land 7;train 0 1 1 0 1 0;train 0 2 1 0 1 1;train 0 3 1 0 1 1;train 0 4 1 0 1 2;train 0 5 1 0 2 2;train 0 6 1 0 2 2;";
        hidesIs(Check.landed(fan + "show 9"), 3, 3);
        hidesIs(Check.landed(fan + "tickets 1 1 0"), 1, 2);
        hidesIs(Check.landed(fan + "tickets 1 0 0"), 0, 1);
        hidesIs(Check.landed(fan + "tickets 0 0 0"), NONE, NONE);
        hidesIs(Check.landed(fan + "seeker 0 4;seeker 1 5"), 3, 3);
        hidesIs(Check.landed(fan + "show 1"), 3, 3);
        hidesIs(Check.landed("land 3;train 0 1 1 0 1 0;train 0 1 1 0 1 0;train 0 2 1 0 1 1"), 0, 1);
        hidesIs(Check.landed("land 3;train 0 1 1 0 1 0;train 0 2 1 0 1 1;train 0 2 1 0 2 1"), 1, 2);
        hidesIs(Check.landed("land 3;train 0 1 1 0 1 0;train 0 2 1 0 1 1;train 0 1 2 1 1 1"), 0, 1);
        NoonTrains x = Check.landed("land 7;train 0 1 1 0 1 0;train 0 2 1 0 1 0;train 1 3 1 0 1 1;train 1 4 1 0 1 2;"
                + "train 2 5 1 0 1 2;train 2 6 1 0 2 2;show 9");
        x.ride(0);
        x.noon();
        hidesIs(x, 3, 3);
        x.keep(0);
        x.ride(2);
        hidesIs(x, 3, 3);
    }

    private static void hidesLeast() {
        DOC.says("of several the least TRAIN");
        hidesIs(Check.landed("land 3;train 0 1 1 0 1 2;train 0 2 1 0 1 1;train 0 1 1 0 1 0"), 0, 1);
        hidesIs(Check.landed("land 3;train 0 1 2 1 1 2;train 0 2 1 0 1 1;train 0 1 1 0 1 1"), 1, 2);
        hidesIs(Check.landed("land 3;train 1 0 1 0 1 0;train 0 2 1 0 2 0"), 1, 1);
        due("closed too, when all are the same", Check.landed(TRIANGLE + "seeker 0 3").closed(0), 0);
    }

    // ---- CHASE, CLOSED

    private static void chaseSeen() {
        DOC.says("CHASE: all see all, TICKETS do not count, TRAINS of 2 NIGHTS do not run: each DAY first SEEKERS tell where they go (ride or stay), then HE where HE rides (stays, if HE can not)");
        due("one SEEKER, HE goes elsewhere", Check.landed(TRIANGLE + "seeker 0 1").chase(), NONE);
        due("two hold both others", Check.landed(TRIANGLE + "seeker 0 1;seeker 1 2").chase(), 1);
        due("two at one place, one rides", Check.landed(TRIANGLE + "seeker 0 1;seeker 1 1").chase(), 1);
        due("SEEKER 1 alone", Check.landed(TRIANGLE + "seeker 1 1").chase(), NONE);
        String there = "land 2;train 0 1 1 0 1 0;train 1 0 1 0 1 0;seeker 0 1;";
        due("it stays where HE has to go", Check.landed(there + "show 9").chase(), 1);
        due("without TICKETS HE has to too", Check.landed(there + "tickets 0 0 0").chase(), 1);
        due("HE can not ride by 2 NIGHTS, stays", Check.landed("land 3;train 0 1 1 0 2 0;train 2 0 1 0 1 0;seeker 0 2").chase(), 1);
        due("a SEEKER does not ride by 2 NIGHTS", Check.landed("land 3;train 2 0 1 0 2 0;seeker 0 2").chase(), NONE);
        due("a SEEKER without TICKETS", Check.landed("land 3;train 2 0 1 0 1 2;seeker 0 2;tickets 0 0 0").chase(), 1);
        due("a TRAIN that does not run today", Check.landed("land 3;train 2 0 3 2 1 0;seeker 0 2").chase(), 3);
    }

    private static void chaseDays() {
        DOC.says("the fewest DAYS from now in which they have him at a noon, whatever HE does, if HE does what is longest; none: not in 12.");
        String fork = "land 6;train 0 1 1 0 1 0;train 0 2 1 0 1 0;train 3 1 1 0 1 0;train 1 2 1 0 1 0;";
        due("HE takes the longer way", Check.landed(fork + "seeker 0 3").chase(), 2);
        due("they take the fewer", Check.landed(fork + "seeker 0 3;seeker 1 2").chase(), 1);
        due("he is there now", Check.landed(fork + "seeker 0 0").chase(), 0);
        due("never", Check.landed(fork + "seeker 0 4").chase(), NONE);
        String pass = "land 4;train 0 1 1 0 1 0;train 0 2 1 0 1 0;train 1 0 2 0 1 0;train 1 3 4 1 1 0;train 2 0 1 0 1 0;";
        due("at a noon, not as they pass", Check.landed(pass + "seeker 0 1").chase(), 4);
        NoonTrains later = Check.landed("land 3;train 2 0 4 1 1 0;seeker 0 2");
        due("on DAY 0", later.chase(), 2);
        later.noon();
        due("from now, on DAY 1", later.chase(), 1);
        later.noon();
        due("from now, on DAY 2", later.chase(), 4);
    }

    /** The same land with its STATIONS told by other numbers, so that each number takes each part. */
    private static void everywhere() {
        int[][] line = {{1, 2, 1, 0}, {2, 3, 1, 0}, {3, 1, 1, 0}, {4, 3, 1, 0}, {5, 4, 2, 1}, {4, 0, 4, 3}, {0, 4, 1, 0}};
        for (int shift = 0; shift < 7; shift++) {
            StringBuilder text = new StringBuilder("land 7");
            for (int[] t : line) {
                text.append(";train ").append((t[0] + shift) % 7).append(' ').append((t[1] + shift) % 7);
                text.append(' ').append(t[2]).append(' ').append(t[3]).append(" 1 0");
            }
            String at1 = ";start " + (1 + shift) % 7;
            String one = "seeker 0 " + (5 + shift) % 7;
            String both = one + ";seeker 1 " + (4 + shift) % 7;
            String swapped = "seeker 1 " + (5 + shift) % 7 + ";seeker 0 " + (4 + shift) % 7;
            String there = "seeker 0 " + (1 + shift) % 7 + ";seeker 1 " + (1 + shift) % 7;
            String same = "seeker 0 " + (5 + shift) % 7 + ";seeker 1 " + (5 + shift) % 7;
            due("one SEEKER, shift " + shift, Check.landed(text + at1, one).chase(), 5);
            due("two, shift " + shift, Check.landed(text + at1, both).chase(), 2);
            due("two swapped, shift " + shift, Check.landed(text + at1, swapped).chase(), 2);
            due("two at one STATION, shift " + shift, Check.landed(text + at1, same).chase(), 5);
            due("both at START, shift " + shift, Check.landed(text + at1, there).chase(), 0);
        }
        for (int his = 0; his < 7; his++) {
            for (int other = 1; other < 7; other++) {
                everyPair(his, (his + other) % 7);
            }
        }
    }

    /** HE has to come to them, or one of them comes to him while the other sits anywhere. */
    private static void everyPair(int his, int seekers) {
        String text = "land 7;start " + his + ";train ";
        String both = " 1 0 1 0;seeker 0 " + seekers + ";seeker 1 " + seekers;
        due("HE goes from " + his + " to both at " + seekers, Check.landed(text + his + " " + seekers + both).chase(), 1);
        due("one goes from " + seekers + " to " + his, Check.landed(text + seekers + " " + his + both).chase(), 1);
        for (int sits = 0; sits < 7; sits++) {
            if (sits != his && sits != seekers) {
                String zero = " 1 0 1 0;seeker 0 " + seekers + ";seeker 1 " + sits;
                String one = " 1 0 1 0;seeker 1 " + seekers + ";seeker 0 " + sits;
                due("0 to " + his + ", 1 at " + sits, Check.landed(text + seekers + " " + his + zero).chase(), 1);
                due("1 to " + his + ", 0 at " + sits, Check.landed(text + seekers + " " + his + one).chase(), 1);
            }
        }
    }

    private static void chaseTwelve() {
        everywhere();
        DOC.says("none: not in 12");
        String eleven = "land 5;train 4 3 4 2 1 0;train 3 2 4 2 1 0;train 2 0 4 2 1 0;seeker 0 4";
        String twelve = "land 5;train 4 3 4 3 1 0;train 3 2 4 3 1 0;train 2 0 4 3 1 0;seeker 0 4";
        String thirteen = "land 5;train 4 3 4 0 1 0;train 3 2 4 0 1 0;train 2 1 4 0 1 0;train 1 0 4 0 1 0;seeker 0 4";
        due("in 11", Check.landed(eleven).chase(), 11);
        due("in 12", Check.landed(twelve).chase(), 12);
        NoonTrains x = Check.landed(thirteen);
        due("in 13", x.chase(), NONE);
        x.send(0, 0);
        x.noon();
        due("in 12 a DAY later", x.chase(), 12);
        x.noon();
        due("in 11 a DAY later", x.chase(), 11);
        due("in 12 by SEEKER 1", Check.landed(twelve, "land 5", twelve.replace("seeker 0", "seeker 1")).chase(), 12);
    }

    private static void closedLeast() {
        DOC.says("CLOSED: the TRAIN that, not running, makes that least; of several the least TRAIN (none counts more than all).");
        closedIs(Check.landed(TRIANGLE + "seeker 0 1"), 0, 1);
        closedIs(Check.landed(TRIANGLE + "seeker 0 2"), 0, 1);
        closedIs(Check.landed("land 3;train 2 0 1 0 1 0;seeker 0 2"), 0, NONE);
        closedIs(Check.landed("land 3;train 2 0 1 0 1 0;train 0 1 1 0 2 0;seeker 0 2"), 1, 1);
        closedIs(Check.landed("land 3;train 2 0 1 0 1 0;train 2 0 1 0 1 0;seeker 0 2"), 0, 1);
        closedIs(Check.landed("land 4;train 0 1 1 0 1 0;train 0 3 1 0 1 0;train 2 0 1 0 1 0;seeker 0 2"), 0, 2);
        closedIs(Check.landed("land 4;train 1 0 1 0 1 0;train 0 1 1 0 1 0;train 2 0 1 0 1 0;seeker 0 2"), 1, 1);
        closedIs(Check.landed(TRIANGLE + "seeker 0 3"), 0, NONE);
        String twelve = "land 5;train 4 3 4 3 1 0;train 3 2 4 3 1 0;train 2 0 4 3 1 0;train 0 1 1 0 2 0;seeker 0 4";
        closedIs(Check.landed(twelve), 3, 12);
        NoonTrains caught = Check.landed(TRIANGLE + "seeker 0 0");
        closedIs(caught, 0, 0);
        NoonTrains x = Check.landed(TRIANGLE + "seeker 0 1");
        x.keep(0);
        x.ride(1);
        x.send(0, 3);
        due("CAUGHT", x.noon(), 1);
        closedIs(x, 0, 0);
        x.back(0);
        closedIs(x, 0, 1);
        Check.write(x, "seeker 0 3");
        x.land();
        closedIs(x, 0, NONE);
        Check.write(x, "seeker 0 1");
        x.land();
        due("all run as before", x.chase(), NONE);
        due("and stay told", x.runs(0, 0), 3);
    }

    // ---- THE LOG

    private static void logAndJudged() {
        DOC.says("THE LOG has rides (TRAINS), 12 at most");
        NoonTrains x = Check.landed("land 2;train 0 1 1 0 1 0;train 1 0 1 0 1 1");
        for (int i = 1; i <= 12; i++) {
            due("log", x.log((i - 1) % 2), i);
        }
        due("a thirteenth", x.log(0), FULL);
        due("there are twelve", x.count(6), 12);
        due("all twelve can be", x.judge(), NONE);
        DOC.says("JUDGED: from START, DAY 0, with TICKETS told, one by one, each on the DAY on which HE came by the one ahead: the first that can not be ridden so.");
        due("of none", new NoonTrains().judge(), NONE);
        NoonTrains six = Check.landed("land 2;train 0 1 1 0 1 0;train 1 0 1 0 1 1;tickets 6 5 0");
        logged(six, 0, 1, 0, 1, 0, 1, 0, 1, 0, 1, 0, 1);
        due("the twelfth has no TICKET", six.judge(), 11);
        for (int kind = 0; kind < 3; kind++) {
            NoonTrains two = Check.landed("land 2;train 0 1 1 0 1 " + kind + ";train 1 0 1 0 1 " + kind + ";tickets 2 2 2");
            due("two of KIND " + kind, logged(two, 0, 1).judge(), NONE);
            due("a third", logged(two, 0).judge(), 2);
        }
        NoonTrains from = Check.landed("land 3;train 0 1 1 0 1 0;train 1 2 1 0 1 1;start 1");
        due("not from START", logged(from, 0).judge(), 0);
        from.burn();
        due("from START", logged(from, 1).judge(), NONE);
        due("not from where HE came", logged(from, 1).judge(), 1);
        NoonTrains days = Check.landed("land 3;train 0 1 4 0 2 0;train 1 0 4 2 2 0;train 1 0 4 1 1 0;train 0 1 4 1 1 0");
        due("on DAYS 0, 2, 4, 6", logged(days, 0, 1, 0, 1).judge(), NONE);
        days.burn();
        due("HE does not wait", logged(days, 3).judge(), 0);
        days.burn();
        due("by 2 NIGHTS HE comes on DAY 2, not 1", logged(days, 0, 2).judge(), 1);
        NoonTrains used = Check.landed("land 2;train 0 1 1 0 1 0;train 1 0 1 0 1 0;tickets 2 0 0");
        used.ride(0);
        used.noon();
        due("TICKETS told, not those left", logged(used, 0, 1).judge(), NONE);
        due("the first of several", logged(used, 0, 0, 0).judge(), 2);
        due("SEEKERS do not count", logged(Check.landed("train 0 1 1 0 1 0;seeker 0 0;seeker 1 1"), 0).judge(), NONE);
    }

    private static void lateChances() {
        DOC.says("LATE: each TRAIN by p tenths (0 .. 10) comes a DAY later, each by itself");
        NoonTrains one = logged(Check.landed("land 2;train 0 1 1 0 1 0;train 1 0 1 0 1 0"), 0);
        for (int p = 0; p <= 10; p++) {
            int shared = p == 0 || p == 10 ? 10 : p == 5 ? 5 : p % 2 == 0 ? 2 : 1;
            lateIs(one, p, 1, (10 - p) / shared, 10 / shared);
            lateIs(one, p, 0, 0, 1);
            lateIs(one, p, 2, 1, 1);
        }
        logged(one, 1, 0);
        lateIs(one, 5, 3, 1, 8);
        lateIs(one, 5, 4, 1, 2);
        lateIs(one, 5, 5, 7, 8);
        lateIs(one, 5, 6, 1, 1);
        lateIs(one, 10, 5, 0, 1);
        lateIs(one, 10, 6, 1, 1);
        lateIs(one, 0, 3, 1, 1);
        lateIs(one, 0, 2, 0, 1);
        lateIs(one, 1, 3, 729, 1000);
        DOC.says("Parts are told in lowest terms: above (part 0), below (1).");
        lateIs(one, 2, 3, 64, 125);
        lateIs(one, 3, 3, 343, 1000);
        lateIs(one, 4, 4, 81, 125);
        NoonTrains twelve = Check.landed("land 2;train 0 1 1 0 1 0;train 1 0 1 0 1 0");
        logged(twelve, 0, 1, 0, 1, 0, 1, 0, 1, 0, 1, 0, 1);
        lateIs(twelve, 1, 12, 282429536481L, 1000000000000L);
        lateIs(twelve, 9, 23, 1000000000000L - 282429536481L, 1000000000000L);
        lateIs(twelve, 5, 12, 1, 4096);
        lateIs(twelve, 10, 24, 1, 1);
        lateIs(twelve, 10, 23, 0, 1);
    }

    private static void lateDays() {
        DOC.says("HE waits at a STATION for the DAY on which the next one runs");
        NoonTrains wait = logged(Check.landed("land 2;train 0 1 4 3 1 0;train 1 0 4 0 1 0"), 0);
        lateIs(wait, 3, 3, 0, 1);
        lateIs(wait, 3, 4, 7, 10);
        lateIs(wait, 3, 5, 1, 1);
        logged(wait, 1);
        lateIs(wait, 3, 5, 49, 100);
        lateIs(wait, 3, 6, 7, 10);
        lateIs(wait, 3, 8, 7, 10);
        lateIs(wait, 3, 9, 91, 100);
        lateIs(wait, 3, 10, 1, 1);
        DOC.says("the chance that by noon of DAY d (0 .. 40) all are ridden, one by one (a TRAIN that does not leave from where HE is then: never)");
        lateIs(new NoonTrains(), 0, 0, 1, 1);
        lateIs(new NoonTrains(), 10, 40, 1, 1);
        NoonTrains never = logged(Check.landed("land 3;train 0 1 1 0 1 0;train 2 0 1 0 1 0;train 1 2 1 0 1 0"), 0, 1, 2);
        lateIs(never, 0, 40, 0, 1);
        never.burn();
        lateIs(logged(never, 2), 0, 40, 0, 1);
        never.burn();
        lateIs(logged(never, 0, 2, 1), 0, 40, 1, 1);
        lateIs(logged(never, 1), 0, 40, 0, 1);
        NoonTrains far = Check.landed("land 2;train 0 1 4 3 1 0;train 1 0 4 3 1 0");
        logged(far, 0, 1, 0, 1, 0, 1, 0, 1, 0, 1);
        lateIs(far, 1, 40, 9, 10);
        lateIs(far, 10, 40, 0, 1);
        lateIs(far, 0, 39, 0, 1);
        lateIs(logged(far, 0), 0, 40, 0, 1);
        NoonTrains slow = Check.landed("land 2;train 0 1 4 3 2 0;train 1 0 4 1 2 0");
        logged(slow, 0, 1);
        lateIs(slow, 0, 6, 0, 1);
        lateIs(slow, 0, 7, 1, 1);
        lateIs(slow, 10, 11, 0, 1);
        lateIs(slow, 10, 12, 1, 1);
        slow.noon();
        lateIs(slow, 0, 7, 1, 1);
        lateIs(logged(Check.landed("train 0 1 1 0 1 0;tickets 0 0 0"), 0), 0, 1, 1, 1);
    }

    // ---- promises 18 to 21

    private static void shut() {
        DOC.promise(18, "SHUT: how many (seeker NONE), where a SEEKER is then (NONE: nowhere).");
        shutIs(Check.landed(TRIANGLE + "seeker 0 1;seeker 1 2"), 2, 1, 2);
        shutIs(Check.landed(TRIANGLE + "seeker 0 3"), 0, 3, NONE);
        shutIs(Check.landed(TRIANGLE + "seeker 1 2"), 1, NONE, 1);
        NoonTrains x = Check.landed(TRIANGLE + "seeker 1 2");
        x.shut(1);
        due("nothing changes", x.seeker(1), 2);
        x.ride(1);
        due("nothing is told for today", x.noon(), 1);
        DOC.promise(18, "UNKNOWN. NOT: HE is CAUGHT.");
        NoonTrains caught = Check.landed("seeker 0 0;seeker 1 2");
        int[] wrong = {-2, 2, LOW, HIGH};
        for (int seeker : wrong) {
            due("shut(" + seeker + ")", new NoonTrains().shut(seeker), UNKNOWN);
            due("CAUGHT, shut(" + seeker + ")", caught.shut(seeker), UNKNOWN);
        }
        shutIs(caught, NOT, NOT, NOT);
        shutIs(onTheWay(), 0, 2, NONE);
    }

    private static void hides() {
        DOC.promise(19, "HIDES: the TRAIN (what 0), how many (1); NONE: HE can not RIDE.");
        hidesIs(Check.landed(TRIANGLE + "show 9"), 0, 2);
        hidesIs(Check.landed(TRIANGLE + "start 3"), NONE, NONE);
        hidesIs(Check.landed(TRIANGLE + "tickets 0 9 9"), NONE, NONE);
        hidesIs(new NoonTrains(), NONE, NONE);
        DOC.promise(19, "OUTSIDE. NOT: HE is CAUGHT, on the way.");
        NoonTrains caught = Check.landed(TRIANGLE + "seeker 0 0");
        int[] wrong = {-1, 2, LOW, HIGH};
        for (int what : wrong) {
            due("hides(" + what + ")", new NoonTrains().hides(what), OUTSIDE);
            due("CAUGHT, hides(" + what + ")", caught.hides(what), OUTSIDE);
            due("on the way, hides(" + what + ")", onTheWay().hides(what), OUTSIDE);
        }
        hidesIs(caught, NOT, NOT);
        hidesIs(onTheWay(), NOT, NOT);
    }

    private static void chase() {
        DOC.promise(20, "CHASE (0: HE is CAUGHT); NONE.");
        due("CAUGHT on DAY 0", Check.landed("seeker 1 0").chase(), 0);
        NoonTrains x = Check.landed("land 2;train 0 1 1 0 1 0;seeker 0 1");
        due("tomorrow", x.chase(), 1);
        x.ride(0);
        due("a ride told does not count", x.chase(), 1);
        x.noon();
        due("CAUGHT", x.chase(), 0);
        due("never", Check.landed("seeker 0 1;seeker 1 2").chase(), NONE);
        DOC.promise(20, "NOT: HE is on the way; nobody seeks.");
        due("on the way", onTheWay().chase(), NOT);
        NoonTrains came = onTheWay();
        came.noon();
        due("HE came", came.chase(), NONE);
        due("nobody seeks", Check.landed(TRIANGLE + "show 9").chase(), NOT);
        due("SEEKER 1 seeks", Check.landed(TRIANGLE + "seeker 1 3").chase(), NONE);
        due("land sends them nowhere", Check.landed("seeker 0 1", "land 3").chase(), NOT);
    }

    private static void closed() {
        DOC.promise(21, "CLOSED: the TRAIN (what 0; NONE: there are no TRAINS), DAYS then (1; NONE).");
        closedIs(Check.landed("seeker 0 1"), NONE, NONE);
        // Without a TRAIN there are no DAYS "then", also for one who is CAUGHT already.
        closedIs(Check.landed("seeker 0 0"), NONE, NONE);
        closedIs(Check.landed(TRIANGLE + "seeker 0 0"), 0, 0);
        closedIs(Check.landed(TRIANGLE + "seeker 0 1"), 0, 1);
        closedIs(Check.landed("train 0 1 1 0 1 0;seeker 0 2"), 0, NONE);
        closedIs(Check.landed("train 0 1 1 0 2 0;seeker 0 1"), 0, NONE);
        DOC.promise(21, "OUTSIDE; NOT: as chase().");
        int[] wrong = {-1, 2, LOW, HIGH};
        for (int what : wrong) {
            due("closed(" + what + ")", Check.landed(TRIANGLE + "seeker 0 1").closed(what), OUTSIDE);
            due("nobody seeks, closed(" + what + ")", Check.landed(TRIANGLE + "show 9").closed(what), OUTSIDE);
            due("on the way, closed(" + what + ")", onTheWay().closed(what), OUTSIDE);
            due("no TRAINS, closed(" + what + ")", new NoonTrains().closed(what), OUTSIDE);
        }
        closedIs(Check.landed(TRIANGLE + "show 9"), NOT, NOT);
        closedIs(onTheWay(), NOT, NOT);
        closedIs(new NoonTrains(), NOT, NOT);
    }

    // ---- promises 22 to 25

    private static void logAndBurn() {
        DOC.promise(22, "A TRAIN behind THE LOG: how many it has.");
        NoonTrains x = Check.landed(TRIANGLE + "show 9");
        due("the first", x.log(5), 1);
        due("the same again", x.log(5), 2);
        due("nothing is ridden by it", x.noon(), NOT);
        DOC.promise(22, "UNKNOWN; FULL.");
        int[] wrong = {NONE, 6, 12, LOW, HIGH};
        for (int train : wrong) {
            due("log(" + train + ")", x.log(train), UNKNOWN);
        }
        due("there are two", x.count(6), 2);
        logged(x, 0, 0, 0, 0, 0, 0, 0, 0, 0, 0);
        due("full", x.log(0), FULL);
        for (int train : wrong) {
            due("full, log(" + train + ")", x.log(train), UNKNOWN);
        }
        due("without TRAINS", new NoonTrains().log(0), UNKNOWN);
        DOC.promise(23, "THE LOG is empty: how many it had.");
        due("burn() of twelve", x.burn(), 12);
        due("it is empty", x.count(6), 0);
        due("burn() of none", x.burn(), 0);
        due("judge() of none", x.judge(), NONE);
        due("there is room", x.log(0), 1);
        due("burn() of one", x.burn(), 1);
    }

    private static void judge() {
        DOC.promise(24, "JUDGED: the first (from 0); NONE: all can be.");
        NoonTrains x = Check.landed(TRIANGLE + "show 9");
        due("none", x.judge(), NONE);
        due("all can be", logged(x, 0, 3, 4).judge(), NONE);
        due("the fourth can not", logged(x, 5).judge(), 3);
        due("the first of two", logged(x, 5).judge(), 3);
        x.burn();
        due("the first can not", logged(x, 2, 0).judge(), 0);
        due("THE LOG stays", x.count(6), 2);
    }

    private static void late() {
        DOC.promise(25, "LATE. OUTSIDE.");
        NoonTrains x = logged(Check.landed(TRIANGLE + "show 9"), 0);
        int[] wrong = {-1, LOW, HIGH};
        for (int w : wrong) {
            due("p " + w, x.late(w, 0, 0), OUTSIDE);
            due("d " + w, x.late(0, w, 0), OUTSIDE);
            due("part " + w, x.late(0, 0, w), OUTSIDE);
            due("all " + w, x.late(w, w, w), OUTSIDE);
        }
        due("p 11", x.late(11, 0, 0), OUTSIDE);
        due("d 41", x.late(0, 41, 0), OUTSIDE);
        due("part 2", x.late(0, 0, 2), OUTSIDE);
        due("p 10, d 40, part 1", x.late(10, 40, 1), 1);
        due("p 0, d 0, part 0", x.late(0, 0, 0), 0);
    }

    // ---- promises 26 to 28

    private static void keep() {
        DOC.promise(26, "DAY, where all are, what is told for today, TICKETS, what is KNOWN are kept (k 0, 1): DAY.");
        NoonTrains x = Check.landed("land 5;train 0 1 1 0 1 0;train 0 2 1 0 1 0;train 0 3 1 0 2 0;train 4 2 1 0 1 0;train 1 0 1 0 1 1;"
                + "train 3 0 1 0 1 1;show 9;seeker 0 4;tickets 1 1 0");
        due("keep(0) on DAY 0", x.keep(0), 0);
        x.ride(2);
        x.send(0, 3);
        due("keep(1) with rides told", x.keep(1), 0);
        x.noon();
        due("on DAY 1, keep(0) again", x.keep(0), 1);
        x.noon();
        due("back(1)", x.back(1), 0);
        due("DAY", x.count(4), 0);
        due("where HE is", x.he(0), 0);
        due("where it is", x.seeker(0), 4);
        due("TICKETS", x.he(3), 1);
        due("MAY", x.may(), 1);
        due("LETTER", x.letter(), 1);
        due("what was told goes on", x.noon(), 0);
        due("HE is on the way", x.he(1), 1);
        due("it rode", x.seeker(0), 2);
        due("back(0)", x.back(0), 1);
        due("on the way", x.he(1), 1);
        due("to 3", x.he(0), 3);
        due("no TICKET", x.he(3), 0);
        due("MAY", x.may(), 1 << 1);
        due("ON THE WAY", x.way(), 1 << 3);
        due("LETTER", x.letter(), 1 << 1 | 1 << 2);
        x.noon();
        due("HE came", x.he(1), 0);
        x.keep(1);
        x.back(0);
        due("on the way again", x.he(1), 1);
        due("to 3 by what is KNOWN", x.way(), 1 << 3);
        x.back(1);
        due("not on the way", x.he(1), 0);
        due("none by what is KNOWN", x.way(), 0);
        NoonTrains untold = Check.landed(TRIANGLE + "seeker 0 1");
        untold.keep(0);
        untold.ride(1);
        untold.send(0, 2);
        untold.back(0);
        due("nothing was told for today", untold.noon(), NOT);
        untold.ride(1);
        untold.noon();
        due("nor for a SEEKER", untold.seeker(0), 1);
        DOC.promise(26, "UNKNOWN: no such k.");
        int[] wrong = {-1, 2, LOW, HIGH};
        for (int k : wrong) {
            due("keep(" + k + ")", x.keep(k), UNKNOWN);
        }
    }

    private static void back() {
        DOC.promise(27, "It is as it was kept: DAY.");
        NoonTrains x = Check.landed(TRIANGLE + "seeker 0 1");
        x.keep(0);
        x.ride(0);
        due("CAUGHT", x.noon(), 1);
        due("keep(1)", x.keep(1), 1);
        due("back to DAY 0", x.back(0), 0);
        due("HE is free", x.he(2), 0);
        due("again", x.back(0), 0);
        due("back to DAY 1", x.back(1), 1);
        due("CAUGHT", x.he(2), 1);
        due("THE LOG is not kept", logged(x, 0).back(0) + x.count(6), 1);
        DOC.promise(27, "UNKNOWN; NOT: nothing was kept since the last text.");
        int[] wrong = {-1, 2, LOW, HIGH};
        for (int k : wrong) {
            due("back(" + k + ")", x.back(k), UNKNOWN);
            due("at first, back(" + k + ")", new NoonTrains().back(k), UNKNOWN);
        }
        NoonTrains one = Check.landed(TRIANGLE + "seeker 0 1");
        one.keep(1);
        due("only 1 was kept", one.back(0), NOT);
        due("1 was", one.back(1), 0);
        Check.write(one, "show");
        due("a text written, not landed", one.back(1), 0);
        due("one with a FAULT", one.land(), NOT);
        due("kept on", one.back(1), 0);
        Check.write(one, " 4");
        one.land();
        due("since the last text", one.back(1), NOT);
        one.keep(0);
        due("kept again", one.back(0), 0);
        due("the other is not", one.back(1), NOT);
        due("at first", new NoonTrains().back(0), NOT);
    }

    private static void count() {
        DOC.promise(28, "0 STATIONS, 1 TRAINS, 2 START, 3 SHOW, 4 DAY, 5 bytes of THE TEXT, 6 TRAINS of THE LOG, 7 SEEKERS that are somewhere, by bits.");
        NoonTrains x = logged(Check.landed(TRIANGLE + "seeker 0 3;seeker 1 3;show 9", "start 2"), 0, 1, 2);
        x.ride(5);
        x.noon();
        Check.write(x, "abcdefg");
        int[] counts = {4, 6, 2, 9, 1, 7, 3, 3};
        for (int what = 0; what < counts.length; what++) {
            due("count(" + what + ")", x.count(what), counts[what]);
        }
        due("SEEKER 0", Check.landed("seeker 0 1").count(7), 1);
        due("SEEKER 1", Check.landed("seeker 1 1").count(7), 2);
        due("nobody", new NoonTrains().count(7), 0);
        due("at the first STATION", Check.landed("start 1;seeker 0 0;seeker 1 0").count(7), 3);
        DOC.promise(28, "OUTSIDE.");
        int[] wrong = {-1, 8, LOW, HIGH};
        for (int what : wrong) {
            due("count(" + what + ")", x.count(what), OUTSIDE);
        }
    }
}
