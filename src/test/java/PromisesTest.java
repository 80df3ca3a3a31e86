/** Each promise by hand: ordinary inputs, the edges that the document names, refusals that change nothing. */
public final class PromisesTest {
    private static final int NONE = -1, UNKNOWN = -2, OUTSIDE = -3, NOT = -4, FULL = -5;
    private static final int LOW = Integer.MIN_VALUE, HIGH = Integer.MAX_VALUE;

    private static final Check CHECK = new Check("PromisesTest");

    /** A ring of four with a slow train and a shortcut; HE at 0, seeker 0 at 2. */
    private static final String RING = "land 4;train 0 1 1 0 1 0;train 1 2 1 0 1 1;train 2 3 1 0 1 0;"
            + "train 3 0 1 0 1 2;train 0 2 2 1 2 1;train 1 3 3 2 1 0;seeker 0 2";

    /** Three stations, each with trains to the other two, and one more; one who seeks does not get him. */
    private static final String FREE = "land 4;train 3 0 2 1 1 0;train 0 1 1 0 1 0;train 0 2 1 0 1 0;train 1 0 1 0 1 0;"
            + "train 1 2 1 0 1 0;train 2 0 1 0 1 0;train 2 1 1 0 1 0;seeker 0 1";

    public static void main(String[] args) {
        newObject();
        write();
        erase();
        faultOfLines();
        faultOfTokens();
        faultOfCounts();
        landing();
        landingAgain();
        train();
        runs();
        as();
        ride();
        send();
        noon();
        noonCatches();
        he();
        seeker();
        may();
        mayByShow();
        way();
        next();
        letter();
        shut();
        hides();
        chase();
        closed();
        log();
        burn();
        judge();
        late();
        keepAndBack();
        count();
        CHECK.end();
    }

    private static void due(String call, long got, long want) {
        CHECK.due(call, got, want);
    }

    private static void faults(NoonTrains x, String text, int want) {
        int stations = x.count(0);
        int trains = x.count(1);
        x.erase();
        Check.write(x, text);
        due("fault of '" + text + "'", x.fault(), want);
        due("the text stays", x.erase(), text.length());
        due("stations stay", x.count(0), stations);
        due("trains stay", x.count(1), trains);
    }

    // ---- promise 1

    private static void newObject() {
        NoonTrains x = new NoonTrains();
        int[] counts = {3, 0, 0, 5, 0, 0, 0, 0};
        int[] him = {0, 0, 0, 9, 9, 9, 0};
        for (int what = 0; what < counts.length; what++) {
            due("new: count(" + what + ")", x.count(what), counts[what]);
        }
        for (int what = 0; what < him.length; what++) {
            due("new: he(" + what + ")", x.he(what), him[what]);
        }
        due("new: seeker(0)", x.seeker(0), NONE);
        due("new: seeker(1)", x.seeker(1), NONE);
        due("new: may()", x.may(), 1);
        due("new: back(0)", x.back(0), NOT);
        due("new: back(1)", x.back(1), NOT);
        due("new: fault()", x.fault(), 0);
    }

    // ---- promises 2, 3

    private static void write() {
        NoonTrains x = new NoonTrains();
        due("write n 0", x.write(0, 0), OUTSIDE);
        due("write n 9", x.write(0, 9), OUTSIDE);
        due("write n low", x.write(0, LOW), OUTSIDE);
        due("write n high", x.write(0, HIGH), OUTSIDE);
        due("refused writes add nothing", x.count(5), 0);
        due("write 1", x.write('s' | 0xfff00L, 1), 1);
        due("write 8", x.write(0x3520776f68L | 32L << 40 | 32L << 48 | 59L << 56, 8), 9);
        due("byte 8 is the highest", x.fault(), 9);
        due("write 6", x.write(0x3520776f6873L, 6), 15);
        due("both are read", x.fault(), NONE);
        x.erase();
        for (int i = 0; i < 24; i++) {
            x.write(-1L, 8);
        }
        due("192 bytes", x.count(5), 192);
        due("7 more", x.write(0, 7), 199);
        due("2 more are too many", x.write(0, 2), FULL);
        due("8 more are too many", x.write(0, 8), FULL);
        due("OUTSIDE goes ahead of FULL", x.write(0, 9), OUTSIDE);
        due("still 199", x.count(5), 199);
        due("the last byte", x.write(32, 1), 200);
        due("no byte more", x.write(32, 1), FULL);
        due("byte 255 is no token of a line", x.fault(), 0);
        NoonTrains y = new NoonTrains();
        StringBuilder wide = new StringBuilder("show 7");
        while (wide.length() < 200) {
            wide.append(' ');
        }
        due("200 bytes", Check.write(y, wide.toString()), 200);
        due("land of 200 bytes", y.land(), 1);
        due("show is 7", y.count(3), 7);
    }

    private static void erase() {
        NoonTrains x = new NoonTrains();
        due("erase of none", x.erase(), 0);
        Check.write(x, "show 4");
        due("erase of 6", x.erase(), 6);
        due("erase again", x.erase(), 0);
        due("count(5)", x.count(5), 0);
        due("fault()", x.fault(), 0);
        due("land()", x.land(), NOT);
    }

    // ---- promise 4

    private static void faultOfLines() {
        NoonTrains x = new NoonTrains();
        faults(x, "", 0);
        faults(x, "   ", 3);
        faults(x, ";", 0);
        faults(x, "show 5;", 7);
        faults(x, "show 5; ", 8);
        faults(x, "show 5;;show 5", 7);
        faults(x, "show 5 show 5", 7);
        faults(x, "show 5 5", 7);
        faults(x, "show", 4);
        faults(x, "show  ", 6);
        faults(x, "show;", 4);
        faults(x, "show show", 5);
        faults(x, "5", 0);
        faults(x, " shows 5", 1);
        faults(x, "sho 5", 0);
        faults(x, "xhow 5", 0);
        faults(x, "shox 5", 0);
        faults(x, "showshow 5", 0);
        faults(x, "  show5  ;  land2  ", NONE);
        faults(x, "land 2;train0 1 1 0 1 0;start1;tickets0 9 0;show9;seeker1 1", NONE);
        faults(x, "tickets 1 2", 11);
        faults(x, "tickets 1 2;", 11);
        faults(x, "tickets 1 2 3 4", 14);
        faults(x, "train 0 1 1 0 1", 15);
        faults(x, "train 0 1 1 0 1 0 0", 18);
        faults(x, "seeker 0", 8);
    }

    private static void faultOfTokens() {
        NoonTrains x = new NoonTrains();
        faults(x, "Show 5", 0);
        faults(x, "show\t5", 4);
        faults(x, "show 5\t", 6);
        faults(x, "show -5", 5);
        faults(x, "show 5.", 6);
        faults(x, "show " + (char) 233, 5);
        faults(x, "show " + (char) 0, 5);
        faults(x, "show `", 5);
        faults(x, "show {", 5);
        faults(x, "show /", 5);
        faults(x, "show :", 5);
        faults(x, "show 05", NONE);
        faults(x, "show 005", 5);
        faults(x, "show 00", 5);
        faults(x, "show 0", 5);
        faults(x, "show 9", NONE);
        faults(x, "show 10", 5);
        faults(x, "show 99999999999", 5);
        faults(x, "land 1", 5);
        faults(x, "land 2", NONE);
        faults(x, "land 7", NONE);
        faults(x, "land 8", 5);
        faults(x, "start 2", NONE);
        faults(x, "start 3", 6);
        faults(x, "tickets 9 9 9", NONE);
        faults(x, "tickets 10 9 9", 8);
        faults(x, "tickets 9 9 10", 12);
        faults(x, "seeker 1 2", NONE);
        faults(x, "seeker 2 0", 7);
        faults(x, "seeker 1 3", 9);
        faults(x, "train 2 0 4 3 2 2", NONE);
        faults(x, "train 3 0 1 0 1 0", 6);
        faults(x, "train 0 3 1 0 1 0", 8);
        faults(x, "train 1 1 1 0 1 0", 8);
        faults(x, "train 1 01 1 0 1 0", 8);
        faults(x, "train 0 1 0 0 1 0", 10);
        faults(x, "train 0 1 5 0 1 0", 10);
        faults(x, "train 0 1 1 1 1 0", 12);
        faults(x, "train 0 1 4 4 1 0", 12);
        faults(x, "train 0 1 1 0 0 0", 14);
        faults(x, "train 0 1 1 0 3 0", 14);
        faults(x, "train 0 1 1 0 1 3", 16);
    }

    private static void faultOfCounts() {
        NoonTrains x = new NoonTrains();
        faults(x, "show 5;show 5;show 5;show 5;show 5;show 5;show 5;show 5;show 5;show 5", NONE);
        faults(x, "show 5;show 5;show 5;show 5;show 5;show 5;show 5;show 5;show 5;show 5;", 69);
        faults(x, "show 5;show 5;show 5;show 5;show 5;show 5;show 5;show 5;show 5;show 5 ", NONE);
        faults(x, "show 5;show 5;show 5;show 5;show 5;show 5;show 5;show 5;show 5;show 5 a", 70);
        faults(x, "land 7;start 6", NONE);
        faults(x, "start 6;land 7", 6);
        faults(x, "land 7;start 6;land 2;start 2", 28);
        faults(x, "land 2;seeker 0 2", 16);
        faults(x, "land 2;train 0 2 1 0 1 0", 15);
        NoonTrains y = Check.landed(trains(10), trains(1));
        due("eleven trains", y.count(1), 11);
        faults(y, trains(1), NONE);
        faults(y, trains(2), 18);
        faults(y, "show 3;" + trains(2) + ";junk", 25);
        faults(y, trains(1) + ";land 2;" + trains(3), NONE);
        NoonTrains z = Check.landed(trains(10), trains(2));
        faults(z, trains(1), 0);
        faults(z, "  train", 2);
        faults(z, "land 3;" + trains(1), NONE);
    }

    private static String trains(int many) {
        StringBuilder text = new StringBuilder("train 0 1 1 0 1 0");
        for (int i = 1; i < many; i++) {
            text.append(";train 0 1 1 0 1 0");
        }
        return text.toString();
    }

    // ---- promise 5

    private static void landing() {
        NoonTrains x = new NoonTrains();
        due("land of an empty text", x.land(), NOT);
        Check.write(x, "show 3;start 9");
        due("land with a fault", x.land(), NOT);
        due("its first line is not done", x.count(3), 5);
        due("the text stays", x.count(5), 14);
        x.erase();
        Check.write(x, "land 6;start 5;tickets 1 0 9;show 2;seeker 1 4;seeker 0 3");
        due("land of six lines", x.land(), 6);
        int[] counts = {6, 0, 5, 2, 0, 0, 0, 3};
        for (int what = 0; what < counts.length; what++) {
            due("landed: count(" + what + ")", x.count(what), counts[what]);
        }
        due("landed: he(0)", x.he(0), 5);
        due("landed: he(3)", x.he(3), 1);
        due("landed: he(4)", x.he(4), 0);
        due("landed: he(5)", x.he(5), 9);
        due("landed: seeker(0)", x.seeker(0), 3);
        due("landed: seeker(1)", x.seeker(1), 4);
        due("landed: may()", x.may(), 32);
        due("landed: letter()", x.letter(), 32);
        due("land again is of an empty text", x.land(), NOT);
        NoonTrains y = Check.landed("start 1;seeker 1 1");
        due("a seeker at START: caught", y.he(2), 1);
        due("a seeker at START: may", y.may(), 2);
        due("a seeker at START: letter", y.letter(), 2);
        due("a seeker at START: noon", y.noon(), NOT);
    }

    private static void landingAgain() {
        NoonTrains x = Check.landed(RING, "tickets 5 5 5;show 4");
        x.ride(0);
        x.send(0, 2);
        x.noon();
        x.log(0);
        x.keep(0);
        x.keep(1);
        x.ride(1);
        Check.write(x, "show 6");
        due("land", x.land(), 1);
        due("DAY is 0", x.count(4), 0);
        due("THE LOG is empty", x.count(6), 0);
        due("trains stay", x.count(1), 6);
        due("HE is at START", x.he(0), 0);
        due("the seeker is as told", x.seeker(0), 2);
        due("tickets are as told", x.he(3), 5);
        due("may", x.may(), 1);
        due("letter", x.letter(), 1);
        due("nothing is kept: 0", x.back(0), NOT);
        due("nothing is kept: 1", x.back(1), NOT);
        due("nothing is ridden", x.noon(), NOT);
        Check.write(x, "start 2;land 3");
        due("land 3", x.land(), 2);
        due("no trains", x.count(1), 0);
        due("START 0", x.count(2), 0);
        due("seekers nowhere", x.count(7), 0);
        due("show stays", x.count(3), 6);
        due("tickets stay", x.he(3), 5);
    }

    // ---- promises 6, 7, 8

    private static void train() {
        NoonTrains x = Check.landed(RING);
        int[] row = {1, 3, 3, 2, 1, 0};
        for (int what = 0; what < 6; what++) {
            due("train(5, " + what + ")", x.train(5, what), row[what]);
        }
        due("train(4, 4)", x.train(4, 4), 2);
        due("train(6, 0)", x.train(6, 0), UNKNOWN);
        NoonTrains full = Check.landed(trains(10), "train 2 1 4 3 2 2;train 1 2 4 2 2 1");
        due("train(11, 0)", full.train(11, 0), 1);
        due("train(11, 5)", full.train(11, 5), 1);
        due("train(12, 0)", full.train(12, 0), UNKNOWN);
        due("train(-1, 0)", x.train(-1, 0), UNKNOWN);
        due("train(high, 9)", x.train(HIGH, 9), UNKNOWN);
        due("train(low, 0)", x.train(LOW, 0), UNKNOWN);
        due("train(0, -1)", x.train(0, -1), OUTSIDE);
        due("train(0, 6)", x.train(0, 6), OUTSIDE);
        due("train(0, high)", x.train(0, HIGH), OUTSIDE);
    }

    private static void runs() {
        NoonTrains x = Check.landed(RING);
        due("runs(0, 0)", x.runs(0, 0), 1);
        due("runs(0, 1)", x.runs(0, 1), 1 | 1 << 4);
        due("runs(1, 1)", x.runs(1, 1), 2);
        due("runs(1, 2)", x.runs(1, 2), 2 | 1 << 5);
        due("runs(1, 5)", x.runs(1, 5), 2 | 1 << 5);
        due("runs(0, high)", x.runs(0, HIGH), 1 | 1 << 4);
        due("runs(3, 7)", x.runs(3, 7), 8);
        due("runs(4, 0)", x.runs(4, 0), UNKNOWN);
        due("runs(-1, -1)", x.runs(-1, -1), UNKNOWN);
        due("runs(high, 0)", x.runs(HIGH, 0), UNKNOWN);
        due("runs(0, -1)", x.runs(0, -1), OUTSIDE);
        due("runs(0, low)", x.runs(0, LOW), OUTSIDE);
    }

    private static void as() {
        NoonTrains x = Check.landed(RING, "tickets 1 0 2");
        due("as(4, 0)", x.as(4, 0), 1);
        due("as(4, 1)", x.as(4, 1), NOT);
        due("as(4, 2)", x.as(4, 2), 1);
        due("as(4, 3): no ticket", x.as(4, 3), 1);
        due("as(3, 0)", x.as(3, 0), 2);
        due("as(3, 1)", x.as(3, 1), 2);
        due("as(3, 2)", x.as(3, 2), NOT);
        due("as(3, 3)", x.as(3, 3), NOT);
        due("as(0, 3) with a ticket", x.as(0, 3), NOT);
        x.ride(0);
        due("as(0, 3) while it is only told", x.as(0, 3), NOT);
        x.noon();
        due("as(0, 3) behind the last ticket", x.as(0, 3), 0);
        due("as(6, 9)", x.as(6, 9), UNKNOWN);
        due("as(-1, 0)", x.as(-1, 0), UNKNOWN);
        due("as(0, 4)", x.as(0, 4), OUTSIDE);
        due("as(0, -1)", x.as(0, -1), OUTSIDE);
    }

    // ---- promise 9

    private static void ride() {
        NoonTrains x = Check.landed(RING, "train 0 3 1 0 2 0;train 0 2 1 0 1 0;tickets 2 0 9");
        due("ride of one who goes", x.ride(0), 1);
        due("ride of two nights", x.ride(6), 3);
        due("told again", x.ride(7), 2);
        String ahead = Sight.now(x);
        due("ride(-1)", x.ride(-1), UNKNOWN);
        due("ride(8)", x.ride(8), UNKNOWN);
        due("ride(high)", x.ride(HIGH), UNKNOWN);
        due("ride from elsewhere", x.ride(1), NOT);
        due("ride that does not run", x.ride(4), NOT);
        CHECK.holds("refused rides change nothing", Sight.now(x).equals(ahead));
        x.send(0, 2);
        due("noon by the last ride told", x.noon(), 0);
        due("HE is there", x.he(0), 2);
        x.ride(2);
        x.noon();
        due("no ticket of kind 0 is left", x.he(3), 0);
        due("ride without a ticket", Check.landed(RING, "tickets 0 9 9").ride(0), NOT);
        NoonTrains y = Check.landed("land 3;train 0 1 1 0 2 0;train 1 2 1 0 1 0;seeker 0 2");
        y.ride(0);
        y.noon();
        due("ride on the way", y.ride(1), NOT);
        due("ride on the way from where HE came", y.ride(0), NOT);
        NoonTrains z = Check.landed("land 3;train 0 1 1 0 1 0;seeker 0 0");
        due("ride when caught", z.ride(0), NOT);
        due("ride of no train when caught", z.ride(1), UNKNOWN);
    }

    // ---- promise 10

    private static void send() {
        NoonTrains x = Check.landed(RING, "train 2 0 1 0 2 0;train 2 1 2 1 1 2;train 2 1 1 0 1 2;tickets 9 9 0");
        due("send(0, 2)", x.send(0, 2), 3);
        due("send needs no ticket", x.send(0, 8), 1);
        due("send of NONE", x.send(0, NONE), 2);
        due("send told again", x.send(0, 2), 3);
        String ahead = Sight.now(x);
        due("send(2, 0)", x.send(2, 0), UNKNOWN);
        due("send(-1, 0)", x.send(-1, 0), UNKNOWN);
        due("send(high, 2)", x.send(HIGH, 2), UNKNOWN);
        due("send(0, -2)", x.send(0, -2), UNKNOWN);
        due("send(0, 9)", x.send(0, 9), UNKNOWN);
        due("send(1, 9) who is nowhere", x.send(1, 9), UNKNOWN);
        due("send(1, NONE) who is nowhere", x.send(1, NONE), NOT);
        due("send(1, 0) who is nowhere", x.send(1, 0), NOT);
        due("send from elsewhere", x.send(0, 0), NOT);
        due("send by two nights", x.send(0, 6), NOT);
        due("send on another day", x.send(0, 7), NOT);
        CHECK.holds("refused sends change nothing", Sight.now(x).equals(ahead));
        x.ride(0);
        due("noon", x.noon(), 0);
        due("the seeker is there", x.seeker(0), 3);
        x.ride(1);
        x.noon();
        due("untold, it stays", x.seeker(0), 3);
        NoonTrains y = Check.landed("land 3;train 0 1 1 0 2 0;train 2 1 1 0 1 0;seeker 0 2;seeker 1 2");
        y.ride(0);
        y.noon();
        due("send while HE is on the way", y.send(1, 1), 1);
        NoonTrains z = Check.landed("land 3;train 0 1 1 0 1 0;seeker 0 0");
        due("send when caught", z.send(0, 0), NOT);
        due("send NONE when caught", z.send(0, NONE), NOT);
        due("send of no train when caught", z.send(0, 1), UNKNOWN);
    }

    // ---- promise 11

    private static void noon() {
        NoonTrains x = Check.landed("land 4;train 0 1 2 0 1 0;train 1 2 1 0 2 1;train 3 1 1 0 1 2;seeker 0 3;tickets 1 1 0");
        due("HE has to ride", x.noon(), NOT);
        due("that changes nothing", x.count(4), 0);
        x.ride(0);
        due("he(3) while only told", x.he(3), 1);
        due("noon", x.noon(), 0);
        due("a ticket less", x.he(3), 0);
        due("the other stays", x.he(4), 1);
        due("HE came", x.he(0), 1);
        due("the ride of yesterday is told no more", x.noon(), NOT);
        x.ride(1);
        x.send(0, 2);
        due("a seeker comes where HE leaves", x.noon(), 0);
        due("HE is on the way", x.he(1), 1);
        due("the ticket goes when HE leaves", x.he(4), 0);
        due("noon on the way without a ride", x.noon(), 0);
        due("HE came", x.he(1), 0);
        due("DAY", x.count(4), 3);
        due("HE can not ride and stays", x.noon(), 0);
        due("HE stays", x.he(0), 2);
        due("the seeker stays", x.seeker(0), 1);
        NoonTrains y = Check.landed("land 2;train 0 1 2 1 1 0");
        due("nothing runs today", y.noon(), 0);
        due("HE has to tomorrow", y.noon(), NOT);
        NoonTrains z = Check.landed("land 2;train 0 1 1 0 1 0;tickets 0 9 9");
        due("without tickets HE stays", z.noon(), 0);
    }

    private static void noonCatches() {
        NoonTrains swap = Check.landed("land 2;train 0 1 1 0 1 0;train 1 0 1 0 1 0;seeker 1 1");
        swap.ride(0);
        swap.send(1, 1);
        due("they pass one another", swap.noon(), 0);
        swap.ride(1);
        due("HE comes to who stays", swap.noon(), 1);
        due("caught", swap.he(2), 1);
        due("nothing goes on", swap.noon(), NOT);
        due("DAY stays", swap.count(4), 2);
        NoonTrains way = Check.landed("land 2;train 0 1 1 0 2 0;seeker 0 1");
        way.ride(0);
        due("on the way to a seeker is not caught", way.noon(), 0);
        due("coming there is", way.noon(), 1);
        due("caught at 1", way.he(0), 1);
        NoonTrains rest = Check.landed("land 2;train 1 0 1 0 1 0;seeker 0 1");
        rest.send(0, 0);
        due("who stays is caught by who comes", rest.noon(), 1);
    }

    // ---- promises 12, 13

    private static void he() {
        NoonTrains x = Check.landed("land 4;train 0 1 1 0 1 0;train 0 2 1 0 2 1;train 0 3 1 0 1 2;train 0 3 2 1 1 0;"
                + "start 0;tickets 3 2 0");
        due("he(6): no ticket of 2, 3 does not run", x.he(6), 3);
        due("he(-1)", x.he(-1), OUTSIDE);
        due("he(7)", x.he(7), OUTSIDE);
        due("he(low)", x.he(LOW), OUTSIDE);
        x.ride(1);
        due("he(6) with a ride told", x.he(6), 3);
        x.noon();
        due("he(0) on the way", x.he(0), 2);
        due("he(1) on the way", x.he(1), 1);
        due("he(2) on the way", x.he(2), 0);
        due("he(4) on the way", x.he(4), 1);
        due("he(6) on the way", x.he(6), 0);
        NoonTrains y = Check.landed("land 2;train 0 1 1 0 1 0;seeker 0 0");
        due("he(2) caught", y.he(2), 1);
        due("he(6) caught", y.he(6), 0);
    }

    private static void seeker() {
        NoonTrains x = Check.landed("land 7;start 1;seeker 1 6");
        due("seeker(0) nowhere", x.seeker(0), NONE);
        due("seeker(1)", x.seeker(1), 6);
        due("seeker(2)", x.seeker(2), UNKNOWN);
        due("seeker(-1)", x.seeker(-1), UNKNOWN);
        due("seeker(low)", x.seeker(LOW), UNKNOWN);
        due("seeker(high)", x.seeker(HIGH), UNKNOWN);
    }

    // ---- promises 14, 15, 16, 17

    /** From 0: two of kind 0, one of them to a seeker; kind 1 by two nights; onward trains. */
    private static NoonTrains fork(String more) {
        return Check.landed("land 6;train 0 1 1 0 1 0;train 0 2 1 0 1 0;train 0 3 1 0 1 0;train 0 4 1 0 2 0;"
                + "train 0 5 1 0 1 1;train 1 5 1 0 1 1;train 2 4 2 1 1 2;" + more);
    }

    private static void may() {
        NoonTrains x = fork("show 9;seeker 0 3");
        x.ride(0);
        due("noon", x.noon(), 0);
        due("by kind 0, 3 is left out", x.may(), 1 << 1 | 1 << 2);
        due("on the way to 4", x.way(), 1 << 4);
        x.keep(0);
        x.ride(5);
        x.noon();
        due("by kind 1 it was from 1", x.may(), 1 << 5);
        due("nobody on the way", x.way(), 0);
        NoonTrains y = fork("show 9;seeker 0 3");
        y.ride(3);
        y.noon();
        due("HE is on the way", y.he(1), 1);
        due("but may be there too", y.may(), 1 << 1 | 1 << 2);
        y.noon();
        due("none used: 1 and 2 could ride", y.may(), 1 << 4);
        NoonTrains z = fork("show 9;seeker 0 5");
        Check.write(z, "tickets 1 0 0");
        z.land();
        z.ride(2);
        z.noon();
        due("all by kind 0", z.may(), 1 << 1 | 1 << 2 | 1 << 3);
        z.noon();
        due("none used and none could be: all stay, who was on the way comes", z.may(), 1 << 1 | 1 << 2 | 1 << 3 | 1 << 4);
        NoonTrains back = Check.landed("land 4;train 1 0 1 0 1 0;train 1 2 1 0 1 0;train 1 3 1 0 1 0;start 1;seeker 0 0;seeker 1 3");
        back.ride(1);
        back.noon();
        due("both seekers leave a station out", back.may(), 4);
        NoonTrains c = Check.landed("land 4;train 0 1 1 0 1 0;train 0 2 1 0 1 0;train 0 3 1 0 2 0;seeker 0 1;seeker 1 2");
        c.ride(0);
        due("caught", c.noon(), 1);
        due("just that station", c.may(), 2);
        due("and none on the way", c.way(), 0);
    }

    private static void mayByShow() {
        NoonTrains x = fork("show 9");
        Check.write(x, "show 2;train 1 0 1 0 2 1;train 2 0 1 0 2 2;train 5 0 1 0 2 1");
        x.land();
        x.ride(1);
        x.noon();
        due("DAY 1 is not shown", x.may(), 1 << 1 | 1 << 2 | 1 << 3);
        x.ride(6);
        x.noon();
        due("DAY 2 is", x.may(), 1 << 4);
        NoonTrains y = Check.landed("land 4;train 0 1 1 0 1 0;train 0 2 1 0 2 0;train 0 3 1 0 2 0;show 1");
        y.ride(2);
        y.noon();
        due("shown on the way: nowhere", y.may(), 0);
        due("shown on the way: to 3 alone", y.way(), 8);
        y.noon();
        due("shown at 3", y.may(), 8);
        NoonTrains z = Check.landed("land 4;train 0 1 1 0 1 0;train 0 2 1 0 2 0;train 0 3 1 0 2 0;show 1");
        z.ride(0);
        z.noon();
        due("shown at 1: none on the way", z.way(), 0);
        due("shown at 1", z.may(), 2);
    }

    private static void way() {
        NoonTrains x = Check.landed("land 4;train 0 1 1 0 2 0;train 0 2 1 0 2 0;train 0 3 1 0 2 1;seeker 0 1");
        due("way on DAY 0", x.way(), 0);
        x.ride(0);
        x.noon();
        due("a seeker there does not count", x.way(), 6);
        due("nowhere at a station", x.may(), 0);
        due("HE is caught when HE comes", x.noon(), 1);
        due("none on the way then", x.way(), 0);
    }

    private static void next() {
        NoonTrains x = fork("show 9;seeker 0 3");
        due("by kinds 0 and 1, a seeker left out of nothing", x.next(), 1 << 1 | 1 << 2 | 1 << 3 | 1 << 5);
        x.ride(0);
        due("a ride told does not count", x.next(), 1 << 1 | 1 << 2 | 1 << 3 | 1 << 5);
        x.noon();
        due("from 1, 2 and the way to 4", x.next(), 1 << 5 | 1 << 4);
        NoonTrains y = fork("show 9;seeker 0 3");
        Check.write(y, "tickets 1 0 9");
        y.land();
        due("no ticket of kind 1", y.next(), 1 << 1 | 1 << 2 | 1 << 3);
        y.ride(0);
        y.noon();
        due("1 stays, 2 has to ride, 4 is come to", y.next(), 1 << 1 | 1 << 4);
        NoonTrains z = Check.landed("land 3;train 0 1 1 0 2 0");
        due("by two nights nobody is anywhere", z.next(), 0);
        due("nothing changes", z.he(1), 0);
    }

    private static void letter() {
        NoonTrains x = fork("show 9;seeker 0 3");
        Check.write(x, "tickets 1 1 1;show 1");
        x.land();
        due("letter on DAY 0", x.letter(), 1);
        x.ride(0);
        x.noon();
        due("by any kind; shows, seekers are not told", x.letter(), 1 << 1 | 1 << 2 | 1 << 3 | 1 << 5);
        due("what is known now", x.may(), 2);
        x.keep(1);
        x.ride(5);
        x.noon();
        due("from where HE showed himself a day ago", x.letter(), 1 << 5);
        x.back(1);
        due("letter of the image", x.letter(), 1 << 1 | 1 << 2 | 1 << 3 | 1 << 5);
        NoonTrains y = Check.landed("land 3;train 0 1 1 0 1 0;train 1 2 1 0 1 0;tickets 1 0 0;show 9");
        y.ride(0);
        y.noon();
        due("with the tickets of that noon", y.letter(), 2);
        y.noon();
        due("without tickets HE stays", y.letter(), 2);
        NoonTrains z = Check.landed("land 3;train 0 1 1 0 1 0;train 0 2 1 0 1 1;seeker 0 1");
        z.ride(0);
        z.noon();
        due("caught, the letter does not tell", z.letter(), 6);
    }

    // ---- promises 18, 19

    private static void shut() {
        NoonTrains x = Check.landed("land 6;train 0 1 1 0 1 0;train 0 2 1 0 1 1;train 0 3 1 0 1 2;"
                + "train 5 3 1 0 1 0;train 5 1 1 0 1 0;train 4 3 1 0 1 0;train 4 2 2 1 1 0;seeker 0 5;seeker 1 4");
        due("two are shut", x.shut(NONE), 2);
        due("seeker 0 to 1", x.shut(0), 1);
        due("seeker 1 to 3", x.shut(1), 3);
        due("nothing changes", x.seeker(0), 5);
        due("shut(2)", x.shut(2), UNKNOWN);
        due("shut(-2)", x.shut(-2), UNKNOWN);
        due("shut(high)", x.shut(HIGH), UNKNOWN);
        NoonTrains y = Check.landed("land 4;train 0 2 1 0 1 0;train 3 2 1 0 1 0;train 1 2 1 0 1 0;seeker 0 3;seeker 1 1");
        due("one is shut", y.shut(NONE), 1);
        due("seeker 0 takes its first station that leaves one shut", y.shut(0), 2);
        due("seeker 1 then its first", y.shut(1), 1);
        NoonTrains z = Check.landed("land 4;train 0 2 1 0 1 0;train 1 2 1 0 2 0;seeker 1 1");
        due("not by two nights", z.shut(NONE), 0);
        due("nowhere", z.shut(0), NONE);
        due("stays", z.shut(1), 1);
        NoonTrains w = Check.landed("land 4;train 0 2 1 0 1 0;train 1 0 1 0 1 0;train 1 3 1 0 1 0;seeker 1 1");
        due("none can be shut", w.shut(NONE), 0);
        due("the first station", w.shut(1), 0);
        NoonTrains c = Check.landed("seeker 0 0");
        due("shut when caught", c.shut(NONE), NOT);
        due("shut(1) when caught", c.shut(1), NOT);
        due("shut(2) when caught", c.shut(2), UNKNOWN);
        due("nobody seeks", new NoonTrains().shut(1), NONE);
    }

    private static void hides() {
        NoonTrains x = Check.landed("land 6;train 0 1 1 0 1 0;train 0 2 1 0 1 1;train 0 3 1 0 2 1;train 0 4 1 0 1 2;"
                + "train 0 5 1 0 1 2;train 0 1 2 1 1 0;seeker 0 4;show 1");
        due("of two with two the least", x.hides(0), 1);
        due("a station and one on the way to", x.hides(1), 2);
        x.ride(0);
        due("a ride told does not count", x.hides(0), 1);
        Check.write(x, "tickets 9 0 9");
        x.land();
        due("without tickets of kind 1; a seeker left out of nothing", x.hides(0), 3);
        due("two", x.hides(1), 2);
        due("hides(2)", x.hides(2), OUTSIDE);
        due("hides(-1)", x.hides(-1), OUTSIDE);
        x.ride(0);
        x.noon();
        due("HE can not ride", x.hides(0), NONE);
        due("HE can not ride", x.hides(1), NONE);
        NoonTrains both = Check.landed("land 3;train 0 1 1 0 1 0;train 0 1 1 0 2 0;train 0 2 1 0 1 1");
        due("at 1 and on the way to 1 are two", both.hides(1), 2);
        NoonTrains way = Check.landed("land 3;train 0 1 1 0 2 0");
        way.ride(0);
        way.noon();
        due("hides on the way", way.hides(0), NOT);
        due("hides(2) on the way", way.hides(2), OUTSIDE);
        due("hides when caught", Check.landed("train 0 1 1 0 1 0;seeker 1 0").hides(1), NOT);
        NoonTrains far = fork("show 9");
        far.ride(0);
        far.noon();
        due("by what is known, of all stations at which HE may be", far.hides(1), 1);
    }

    // ---- promises 20, 21

    private static void chase() {
        due("nobody seeks", new NoonTrains().chase(), NOT);
        due("caught", Check.landed("seeker 1 0").chase(), 0);
        due("no trains: never", Check.landed("seeker 1 1").chase(), NONE);
        NoonTrains line = Check.landed("land 7;train 1 0 1 0 1 0;train 2 1 1 0 1 0;train 3 2 1 0 1 0;seeker 0 3");
        due("three stations off", line.chase(), 3);
        NoonTrains wait = Check.landed("land 2;train 1 0 4 3 1 0;seeker 0 1");
        due("the train runs on DAY 3", wait.chase(), 4);
        NoonTrains slow = Check.landed("land 2;train 1 0 1 0 2 0;seeker 0 1");
        due("trains of two nights do not run", slow.chase(), NONE);
        NoonTrains swap = Check.landed("land 2;train 0 1 1 0 1 0;train 1 0 1 0 1 0;seeker 0 1;tickets 0 0 0");
        due("HE has to ride to who stays, tickets or none", swap.chase(), 1);
        NoonTrains fork = Check.landed("land 4;train 0 1 1 0 1 0;train 0 2 1 0 1 0;train 1 0 1 0 1 0;train 2 0 1 0 1 0;seeker 0 1");
        due("it comes to 0 and stays there", fork.chase(), 2);
        Check.write(fork, "seeker 1 2");
        fork.land();
        due("two hold both", fork.chase(), 1);
        String twelve = "land 7;train 6 5 4 3 1 0;train 5 4 4 3 1 0;train 4 0 4 3 1 0;seeker 0 6";
        due("just in 12", Check.landed(twelve).chase(), 12);
        String thirteen = "land 7;train 6 5 4 3 1 0;train 5 4 4 3 1 0;train 4 3 4 3 1 0;train 3 0 1 0 1 0;seeker 0 6";
        due("not in 12", Check.landed(thirteen).chase(), NONE);
        NoonTrains later = Check.landed(thirteen);
        later.noon();
        due("in 12 a day later", later.chase(), 12);
        NoonTrains free = Check.landed(FREE);
        due("HE sees where it goes, and goes elsewhere", free.chase(), NONE);
        NoonTrains way = Check.landed("land 3;train 0 1 1 0 2 0;seeker 0 2");
        way.ride(0);
        way.noon();
        due("on the way", way.chase(), NOT);
    }

    private static void closed() {
        due("no trains", Check.landed("seeker 1 1").closed(0), NONE);
        due("no trains, days", Check.landed("seeker 1 1").closed(1), NONE);
        due("nobody seeks", Check.landed(trains(1)).closed(0), NOT);
        due("closed(2)", Check.landed(trains(1)).closed(2), OUTSIDE);
        due("closed(-1)", Check.landed(trains(1)).closed(-1), OUTSIDE);
        NoonTrains x = Check.landed(FREE);
        due("without the way to 1 HE has to go to 2", x.closed(0), 1);
        due("on the next day", x.closed(1), 1);
        due("nothing changes", x.chase(), NONE);
        NoonTrains never = Check.landed("land 3;train 0 1 1 0 1 0;train 1 0 1 0 1 0;seeker 0 2");
        due("all are none: the least", never.closed(0), 0);
        due("all are none", never.closed(1), NONE);
        NoonTrains slow = Check.landed("land 3;train 0 2 1 0 2 0;train 1 0 1 0 1 0;train 1 0 1 0 1 0;seeker 0 1");
        due("of several the least, also one of two nights", slow.closed(0), 0);
        due("as few as before", slow.closed(1), 1);
        NoonTrains need = Check.landed("land 3;train 1 0 1 0 1 0;train 0 2 1 0 2 0;seeker 0 1");
        due("none counts more than all", need.closed(0), 1);
        due("days", need.closed(1), 1);
        NoonTrains caught = Check.landed("train 0 1 1 0 1 0;seeker 0 0");
        due("caught", caught.closed(0), 0);
        due("caught, days", caught.closed(1), 0);
        NoonTrains way = Check.landed("land 3;train 0 1 1 0 2 0;seeker 0 2");
        way.ride(0);
        way.noon();
        due("on the way", way.closed(1), NOT);
        due("on the way, closed(3)", way.closed(3), OUTSIDE);
    }

    // ---- promises 22, 23, 24, 25

    private static void log() {
        NoonTrains x = Check.landed(trains(2));
        for (int i = 1; i <= 12; i++) {
            due("log " + i, x.log(i % 2), i);
        }
        due("a thirteenth", x.log(0), FULL);
        due("UNKNOWN goes ahead of FULL", x.log(2), UNKNOWN);
        due("log(-1)", x.log(-1), UNKNOWN);
        due("log(high)", x.log(HIGH), UNKNOWN);
        due("still twelve", x.count(6), 12);
        due("log does not ride", x.noon(), NOT);
    }

    private static void burn() {
        NoonTrains x = Check.landed(trains(2));
        due("burn of none", x.burn(), 0);
        x.log(1);
        x.log(0);
        due("burn of two", x.burn(), 2);
        due("burn again", x.burn(), 0);
        due("log again", x.log(0), 1);
    }

    private static void judge() {
        NoonTrains x = Check.landed(RING, "tickets 1 1 1");
        due("judge of none", x.judge(), NONE);
        x.log(0);
        x.log(1);
        due("0 1 can be", x.judge(), NONE);
        x.log(2);
        due("no second ticket of kind 0", x.judge(), 2);
        x.log(0);
        due("the first", x.judge(), 2);
        Check.write(x, "tickets 4 4 4");
        x.land();
        x.log(4);
        due("train 4 does not run on DAY 0", x.judge(), 0);
        x.burn();
        x.log(1);
        due("not from START", x.judge(), 0);
        NoonTrains y = Check.landed("land 3;train 0 1 1 0 2 0;train 1 0 2 0 1 0;train 1 0 2 1 1 0;seeker 0 1;start 0");
        y.log(0);
        y.log(1);
        due("by two nights HE comes on DAY 2, seekers or none", y.judge(), NONE);
        y.burn();
        y.log(0);
        y.log(2);
        due("that runs on other days", y.judge(), 1);
        NoonTrains z = Check.landed("land 3;train 0 1 2 0 1 0;train 1 0 2 1 1 2;train 1 2 2 0 1 2;tickets 9 9 1");
        z.log(0);
        z.log(1);
        z.log(0);
        due("a night each", z.judge(), NONE);
        z.log(1);
        due("one ticket of kind 2", z.judge(), 3);
        z.burn();
        z.log(0);
        z.log(2);
        due("that ran the day ahead", z.judge(), 1);
        y.ride(0);
        y.noon();
        y.burn();
        y.log(0);
        due("from DAY 0 and START, whatever is now", y.judge(), NONE);
    }

    private static void late() {
        NoonTrains x = Check.landed("land 3;train 0 1 1 0 1 0;train 1 2 4 2 2 0;train 2 0 3 0 1 0;tickets 0 0 0");
        due("none are ridden by DAY 0", x.late(10, 0, 0), 1);
        due("in lowest terms", x.late(10, 0, 1), 1);
        x.log(0);
        due("not by DAY 0", x.late(0, 0, 0), 0);
        due("0 is 0 of 1", x.late(0, 0, 1), 1);
        due("by DAY 1, 7 of 10", x.late(3, 1, 0), 7);
        due("by DAY 1, 7 of 10", x.late(3, 1, 1), 10);
        due("by DAY 1, 1 of 2", x.late(5, 1, 1), 2);
        due("by DAY 2 surely", x.late(3, 2, 0), 1);
        due("surely late", x.late(10, 1, 0), 0);
        x.log(1);
        due("HE waits for DAY 2 and comes on DAY 4", x.late(4, 4, 0), 3);
        due("3 of 5", x.late(4, 4, 1), 5);
        due("not on DAY 3", x.late(4, 3, 0), 0);
        x.log(2);
        due("on DAY 6 or 9: by DAY 7 in time", x.late(1, 7, 0), 9);
        due("9 of 10", x.late(1, 7, 1), 10);
        due("late once in all", x.late(1, 6, 0), 0);
        due("by DAY 40", x.late(9, 40, 0), 1);
        x.log(2);
        due("that does not leave from there: never", x.late(0, 40, 0), 0);
        due("never is 0 of 1", x.late(0, 40, 1), 1);
        int[][] wrong = {{-1, 0, 0}, {11, 0, 0}, {0, -1, 0}, {0, 41, 0}, {0, 0, -1}, {0, 0, 2}, {LOW, HIGH, 0}};
        for (int[] w : wrong) {
            due("late(" + w[0] + ", " + w[1] + ", " + w[2] + ")", x.late(w[0], w[1], w[2]), OUTSIDE);
        }
        NoonTrains y = Check.landed("land 2;train 0 1 1 0 1 0;train 1 0 1 0 1 0");
        for (int i = 0; i < 12; i++) {
            y.log(i % 2);
        }
        due("twelve, none late", y.late(3, 12, 0), 13841287201L);
        due("of all", y.late(3, 12, 1), 1000000000000L);
        due("at most eleven late", y.late(1, 23, 0), 999999999999L);
        NoonTrains z = Check.landed("land 2;train 0 1 4 3 1 0;train 1 0 4 3 1 0");
        for (int i = 0; i < 10; i++) {
            z.log(i % 2);
        }
        due("the tenth leaves on DAY 39", z.late(3, 39, 0), 0);
        due("it comes on DAY 40 or later", z.late(3, 40, 0), 7);
        due("7 of 10", z.late(3, 40, 1), 10);
        z.log(0);
        due("an eleventh comes later", z.late(0, 40, 0), 0);
    }

    // ---- promises 26, 27

    private static void keepAndBack() {
        NoonTrains x = fork("show 9;seeker 0 3");
        x.ride(0);
        x.noon();
        x.ride(5);
        due("keep on DAY 1", x.keep(1), 1);
        String kept = Sight.now(x);
        due("keep(2)", x.keep(2), UNKNOWN);
        due("keep(-1)", x.keep(-1), UNKNOWN);
        due("back(2)", x.back(2), UNKNOWN);
        due("back(-1)", x.back(-1), UNKNOWN);
        due("back of nothing kept", x.back(0), NOT);
        due("noon", x.noon(), 0);
        due("keep on DAY 2", x.keep(0), 2);
        due("noon", x.noon(), 0);
        due("back to DAY 1", x.back(1), 1);
        CHECK.holds("all is as it was kept", Sight.now(x).equals(kept));
        due("what was told for that day too", x.noon(), 0);
        due("HE rode as told", x.he(0), 5);
        due("back once more", x.back(1), 1);
        CHECK.holds("the image stays as it was", Sight.now(x).equals(kept));
        due("back on to DAY 2", x.back(0), 2);
        due("HE is at 5", x.he(0), 5);
        due("keep over it", x.keep(1), 2);
        due("back to that", x.back(1), 2);
        x.log(0);
        x.keep(0);
        x.burn();
        x.back(0);
        due("THE LOG is not kept", x.count(6), 0);
        Check.write(x, "show 4");
        x.back(0);
        due("THE TEXT is not kept", x.count(5), 6);
        x.erase();
        due("an erased text is none", x.back(0), 2);
        NoonTrains y = Check.landed("land 2;train 1 0 1 0 1 0;seeker 1 1");
        y.send(1, 0);
        y.keep(0);
        y.send(1, NONE);
        due("it stays", y.noon(), 0);
        y.back(0);
        due("as it was sent", y.noon(), 1);
        due("keep of one caught", y.keep(1), 1);
        due("where the seeker is", y.seeker(1), 0);
        due("back ahead of it", y.back(0), 0);
        due("free", y.he(2), 0);
        due("the seeker is where it was", y.seeker(1), 1);
        due("back to it", y.back(1), 1);
        due("caught", y.he(2), 1);
        NoonTrains z = Check.landed("land 3;train 0 1 1 0 2 2;tickets 0 0 1");
        z.keep(0);
        z.ride(0);
        z.noon();
        z.keep(1);
        z.back(0);
        due("not on the way yet", z.he(1), 0);
        due("with the ticket", z.he(5), 1);
        due("nor by what is known", z.way(), 0);
        z.back(1);
        due("on the way", z.he(1), 1);
        due("without the ticket", z.he(5), 0);
        due("and by what is known", z.way(), 2);
        Check.write(z, "show 5");
        z.land();
        due("a text ends the way", z.he(1), 0);
        due("and what was known of it", z.way(), 0);
    }

    // ---- promise 28

    private static void count() {
        NoonTrains x = Check.landed("land 5;train 0 1 1 0 1 0;train 1 0 1 0 1 0;start 1;show 8;seeker 1 3");
        x.log(0);
        x.ride(1);
        x.noon();
        Check.write(x, "sho");
        int[] counts = {5, 2, 1, 8, 1, 3, 1, 2};
        for (int what = 0; what < counts.length; what++) {
            due("count(" + what + ")", x.count(what), counts[what]);
        }
        due("count(8)", x.count(8), OUTSIDE);
        due("count(-1)", x.count(-1), OUTSIDE);
        due("count(low)", x.count(LOW), OUTSIDE);
        due("count(high)", x.count(HIGH), OUTSIDE);
        due("seeker 0 somewhere", Check.landed("seeker 0 1").count(7), 1);
    }
}
