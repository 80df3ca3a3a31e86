/** Noons and what is known: each sentence of the document that names an edge of them, promises 9 to 17. */
public final class EdgesOfNoonsTest {
    private static final int NONE = -1, UNKNOWN = -2, OUTSIDE = -3, NOT = -4;
    private static final int LOW = Integer.MIN_VALUE, HIGH = Integer.MAX_VALUE;

    private static final Sentences DOC = new Sentences("EdgesOfNoonsTest");

    /** From 0 by each KIND, on each DAY and on odd ones, by one NIGHT and by two; on from 1. */
    private static final String STAR = "land 6;train 0 1 1 0 1 0;train 0 2 1 0 1 1;train 0 3 1 0 2 1;train 0 4 1 0 1 2;"
            + "train 0 5 2 1 1 0;train 1 0 1 0 1 0;";

    public static void main(String[] args) {
        whatHeMayRide();
        nights();
        heHasTo();
        whatSeekersMayRide();
        noonComes();
        caught();
        caughtOnTheWay();
        nothingGoesOn();
        knownByKind();
        knownByNone();
        seekersLeftOut();
        shown();
        next();
        letter();
        ride();
        send();
        noon();
        he();
        seeker();
        asked();
        DOC.end(9, 17);
    }

    private static void due(String call, long got, long want) {
        DOC.due(call, got, want);
    }

    private static int bits(int... members) {
        int bits = 0;
        for (int member : members) {
            bits |= 1 << member;
        }
        return bits;
    }

    /** HE rides each of these, a noon each (NONE: nothing is told for a DAY). */
    private static NoonTrains ridden(NoonTrains x, int... trains) {
        for (int train : trains) {
            if (train != NONE && x.ride(train) < 0 || x.noon() < 0) {
                throw new IllegalStateException("train " + train + " can not be ridden");
            }
        }
        return x;
    }

    // ---- HE and SEEKERS ride

    private static void whatHeMayRide() {
        DOC.says("HE, at a STATION, may RIDE a TRAIN from there that runs on DAY t, with a TICKET of its KIND left");
        due("all that run from 0", Check.landed(STAR + "tickets 9 9 9").he(6), bits(0, 1, 2, 3));
        due("one TICKET is enough", Check.landed(STAR + "tickets 1 1 1").he(6), bits(0, 1, 2, 3));
        due("none of KIND 0", Check.landed(STAR + "tickets 0 9 9").he(6), bits(1, 2, 3));
        due("none of KIND 1", Check.landed(STAR + "tickets 9 0 9").he(6), bits(0, 3));
        due("none of KIND 2", Check.landed(STAR + "tickets 9 9 0").he(6), bits(0, 1, 2));
        due("none at all", Check.landed(STAR + "tickets 0 0 0").he(6), 0);
        NoonTrains x = ridden(Check.landed(STAR + "show 9"), 0, 5);
        due("on DAY 2", x.he(6), bits(0, 1, 2, 3));
        NoonTrains y = Check.landed("land 2;train 0 1 2 1 1 0;tickets 9 9 9");
        due("not on DAY 0", y.ride(0), NOT);
        y.noon();
        due("on DAY 1", y.ride(0), 1);
        NoonTrains way = ridden(Check.landed(STAR + "show 9"), 2);
        due("on the way none", way.he(6), 0);
        due("on the way it can not be ridden", way.ride(0), NOT);
    }

    private static void nights() {
        DOC.says("at noon of the DAY by its NIGHTS later HE is where it goes (by two NIGHTS HE is on the way for one noon)");
        NoonTrains one = ridden(Check.landed(STAR + "show 9"), 0);
        due("by one NIGHT HE is there", one.he(0), 1);
        due("not on the way", one.he(1), 0);
        NoonTrains two = ridden(Check.landed(STAR + "show 9"), 2);
        due("by two HE is on the way", two.he(1), 1);
        due("to there", two.he(0), 3);
        due("the next noon comes", two.noon(), 0);
        due("not on the way more", two.he(1), 0);
        due("HE is there", two.he(0), 3);
        due("on DAY 2", two.count(4), 2);
        NoonTrains twice = Check.landed("land 3;train 0 1 1 0 2 0;train 1 2 1 0 2 0");
        ridden(twice, 0, NONE, 1);
        due("on the way again", twice.he(1), 1);
        twice.noon();
        due("on DAY 4 at 2", twice.he(0), 2);
        due("DAY", twice.count(4), 4);
    }

    private static void heHasTo() {
        DOC.says("HE has to, if HE can; if HE can not, HE stays.");
        NoonTrains x = Check.landed("land 3;train 0 1 2 1 1 0;train 1 2 1 0 1 1;tickets 1 0 0");
        due("no TRAIN runs: HE stays", x.noon(), 0);
        due("at 0", x.he(0), 0);
        due("HE can, nothing is told", x.noon(), NOT);
        due("DAY stays", x.count(4), 1);
        x.ride(0);
        due("HE rides", x.noon(), 0);
        due("no TICKET is left: HE stays", x.noon(), 0);
        due("at 1", x.he(0), 1);
        due("by two NIGHTS only, HE has to", Check.landed("train 0 1 1 0 2 0").noon(), NOT);
        due("no TRAINS at all", new NoonTrains().noon(), 0);
    }

    private static void whatSeekersMayRide() {
        DOC.says("A SEEKER at a STATION may ride such a TRAIN of 1 NIGHT, without TICKETS, or stay.");
        NoonTrains x = Check.landed("land 5;train 1 2 1 0 1 0;train 1 3 1 0 2 0;train 1 4 2 1 1 0;train 2 1 1 0 1 0;"
                + "seeker 0 1;seeker 1 1;tickets 0 0 0");
        due("of 1 NIGHT", x.send(0, 0), 2);
        due("both the same one", x.send(1, 0), 2);
        due("of 2 NIGHTS", x.send(0, 1), NOT);
        due("on another DAY", x.send(0, 2), NOT);
        due("from elsewhere", x.send(0, 3), NOT);
        due("it stays", x.send(1, NONE), 1);
        x.noon();
        due("0 came", x.seeker(0), 2);
        due("1 stayed", x.seeker(1), 1);
        due("on DAY 1", x.send(1, 2), 4);
        due("from where it is now", x.send(0, 3), 1);
        due("no more from where it was", x.send(0, 0), NOT);
        x.noon();
        due("each where it rode to", x.seeker(0), 1);
        due("each where it rode to", x.seeker(1), 4);
        NoonTrains nowhere = Check.landed("land 5;train 1 2 1 0 1 0;seeker 0 1");
        due("who is nowhere rides not", nowhere.send(1, 0), NOT);
        due("nor stays", nowhere.send(1, NONE), NOT);
    }

    // ---- NOON

    private static void noonComes() {
        DOC.says("NOON: the next DAY comes, all are where they ride to, HE has one TICKET less by what HE rode");
        NoonTrains x = Check.landed("land 4;train 0 1 1 0 1 2;train 2 3 1 0 1 1;train 1 0 1 0 2 1;seeker 0 2;seeker 1 2;tickets 9 1 1");
        x.ride(0);
        x.send(1, 1);
        due("no TICKET goes ahead of noon", x.he(5), 1);
        x.noon();
        due("DAY", x.count(4), 1);
        due("HE", x.he(0), 1);
        due("0 stays", x.seeker(0), 2);
        due("1 rode", x.seeker(1), 3);
        due("KIND 0", x.he(3), 9);
        due("KIND 1, by which a SEEKER rode", x.he(4), 1);
        due("KIND 2", x.he(5), 0);
        x.ride(2);
        x.noon();
        due("of two NIGHTS at once", x.he(4), 0);
        x.noon();
        due("just one", x.he(4), 0);
        due("none by the noon on the way", x.he(3), 9);
        due("what was told stays told for one DAY", x.seeker(1), 3);
        NoonTrains nine = Check.landed("land 2;train 0 1 1 0 1 0;train 1 0 1 0 1 0");
        for (int i = 0; i < 9; i++) {
            due("TICKETS left", nine.he(3), 9 - i);
            ridden(nine, i % 2);
        }
        due("a tenth ride", nine.ride(1), NOT);
        due("none left", nine.he(3), 0);
        due("HE stays", nine.noon(), 0);
        due("none is none", nine.he(3), 0);
    }

    private static void caught() {
        DOC.says("HE is CAUGHT if HE is at a STATION with a SEEKER");
        String swap = "land 3;train 0 1 1 0 1 0;train 1 0 1 0 1 0;train 0 2 1 0 1 0;";
        for (int seeker = 0; seeker < 2; seeker++) {
            NoonTrains pass = Check.landed(swap + "seeker " + seeker + " 1");
            pass.ride(0);
            pass.send(seeker, 1);
            due("they pass one another", pass.noon(), 0);
            NoonTrains comes = Check.landed(swap + "seeker " + seeker + " 1");
            comes.ride(0);
            due("HE comes to one who stays", comes.noon(), 1);
            NoonTrains meets = Check.landed(swap + "seeker " + seeker + " 0;start 1");
            meets.ride(1);
            meets.send(seeker, 2);
            due("it left where HE comes to", meets.noon(), 0);
            NoonTrains still = Check.landed(swap + "start 2;seeker " + seeker + " 0");
            still.send(seeker, 2);
            due("it comes to where HE stays", still.noon(), 1);
            due("on DAY 0", Check.landed(swap + "seeker " + seeker + " 0").he(2), 1);
        }
        NoonTrains both = Check.landed(swap + "seeker 0 1;seeker 1 1");
        both.ride(0);
        due("by both", both.noon(), 1);
        due("nobody seeks", ridden(Check.landed(swap + "show 9"), 0).he(2), 0);
    }

    private static void caughtOnTheWay() {
        DOC.says("(by two NIGHTS HE is on the way for one noon)");
        NoonTrains x = Check.landed("land 3;train 0 1 1 0 2 0;train 2 0 1 0 1 0;seeker 0 1;seeker 1 2");
        x.ride(0);
        x.send(1, 1);
        due("with a SEEKER at both ends", x.noon(), 0);
        due("HE is not CAUGHT", x.he(2), 0);
        due("HE comes to one", x.noon(), 1);
        due("CAUGHT", x.he(2), 1);
        due("there", x.he(0), 1);
        due("not on the way", x.he(1), 0);
    }

    private static void nothingGoesOn() {
        DOC.says("then nothing goes on");
        String both = "train 0 1 1 0 1 0;train 1 0 1 0 1 0;";
        NoonTrains first = Check.landed(both + "seeker 0 0;seeker 1 0");
        NoonTrains later = ridden(Check.landed(both + "seeker 0 1;seeker 1 1"), 0);
        for (NoonTrains x : new NoonTrains[] {first, later}) {
            int day = x.count(4);
            for (int train = 0; train < 2; train++) {
                due("ride", x.ride(train), NOT);
                due("send", x.send(0, train), NOT);
            }
            due("send NONE", x.send(1, NONE), NOT);
            due("noon", x.noon(), NOT);
            due("TRAINS that HE can RIDE", x.he(6), 0);
            due("DAY stays", x.count(4), day);
            due("CAUGHT", x.he(2), 1);
        }
    }

    // ---- what is KNOWN

    private static void knownByKind() {
        DOC.says("from STATIONS at which HE may be, by a TICKET of a KIND, to where TRAINS of it that run go (by 1 NIGHT; by 2: on the way)");
        String fan = "land 7;train 0 1 1 0 1 0;train 0 2 1 0 1 0;train 0 3 2 1 1 0;train 0 4 1 0 1 1;train 0 5 1 0 2 0;"
                + "train 6 4 1 0 1 0;show 9";
        String on = "train 1 3 1 0 1 0;train 2 4 1 0 1 0;train 2 6 2 0 1 0;train 5 6 1 0 1 0;train 0 6 1 0 1 0";
        NoonTrains x = ridden(Check.landed(fan, on), 0);
        due("not by another KIND, DAY, from elsewhere", x.may(), bits(1, 2, 6));
        due("by 2 NIGHTS on the way", x.way(), bits(5));
        ridden(x, 6);
        due("a TICKET was used, so HE was not on the way", x.may(), bits(3, 4));
        due("and is on none", x.way(), 0);
        NoonTrains y = ridden(Check.landed(fan, on), 4);
        due("HE rode by 2, by 1 HE may have", y.may(), bits(1, 2, 6));
        due("on the way", y.way(), bits(5));
        NoonTrains z = ridden(Check.landed(fan, on), 3);
        due("by another KIND", z.may(), bits(4));
        due("none of it by 2", z.way(), 0);
        NoonTrains last = Check.landed("land 3;train 0 1 1 0 1 0;train 0 2 1 0 1 0;tickets 1 0 0");
        due("by the last TICKET", ridden(last, 0).may(), bits(1, 2));
    }

    private static void knownByNone() {
        DOC.says("where none was used: those stay at which HE could not ride any TRAIN (with the TICKETS HE had), who was on the way comes there");
        String fan = "land 7;train 0 1 1 0 1 0;train 0 2 1 0 1 0;train 0 3 1 0 1 0;train 0 4 1 0 2 0;show 9";
        String on = "train 1 5 1 0 1 1;train 2 5 2 0 1 1;train 3 5 1 0 1 2;";
        NoonTrains x = ridden(Check.landed(fan, on + "tickets 1 1 0"), 1, NONE);
        due("1 could ride; 2 on no such DAY, 3 without a TICKET; 4 came", x.may(), bits(2, 3, 4));
        due("nobody is on the way", x.way(), 0);
        NoonTrains y = ridden(Check.landed(fan, on + "tickets 1 0 1"), 3, NONE);
        due("1 without a TICKET, 3 could", y.may(), bits(1, 2, 4));
        NoonTrains slow = ridden(Check.landed(fan, "train 1 5 1 0 2 1;tickets 1 1 1"), 1, NONE);
        due("by 2 NIGHTS HE could too", slow.may(), bits(2, 3, 4));
        NoonTrains again = ridden(Check.landed(fan, on + "tickets 1 1 0"), 2, NONE, NONE);
        due("on DAY 2 one from 2 ran", again.may(), bits(3, 4));
        due("at first, without TRAINS", ridden(new NoonTrains(), NONE).may(), 1);
        NoonTrains rest = Check.landed("land 2;train 0 1 1 0 1 2;tickets 9 9 0;start 0;show 9");
        due("at START without that TICKET", ridden(rest, NONE).may(), 1);
    }

    private static void seekersLeftOut() {
        DOC.says("Then STATIONS with a SEEKER are left out (if HE is CAUGHT, it is just that STATION)");
        String fan = "land 6;train 0 1 1 0 1 0;train 0 2 1 0 1 0;train 0 3 1 0 1 0;train 0 4 1 0 2 0;train 5 2 1 0 1 0;"
                + "train 3 5 1 0 1 0;show 9;seeker 0 5;seeker 1 3";
        NoonTrains x = Check.landed(fan);
        due("0 stays at 5, 1 at 3", ridden(x, 0).may(), bits(1, 2));
        NoonTrains y = Check.landed(fan);
        y.send(0, 4);
        due("0 comes to 2", ridden(y, 0).may(), bits(1));
        NoonTrains z = Check.landed(fan);
        z.send(1, 5);
        due("1 leaves 3", ridden(z, 0).may(), bits(1, 2, 3));
        due("on the way to 4", z.way(), bits(4));
        NoonTrains way = Check.landed(fan, "seeker 0 4;seeker 1 5");
        due("a SEEKER at 4 leaves out none on the way", ridden(way, 0).way(), bits(4));
        ridden(way, NONE);
        due("who comes there is left out", way.may(), bits(1, 2));
        NoonTrains caught = Check.landed(fan);
        ridden(caught, 2);
        due("CAUGHT at 3", caught.he(2), 1);
        due("just 3", caught.may(), bits(3));
        due("none on the way", caught.way(), 0);
        due("on DAY 0", Check.landed("start 2;seeker 0 2").may(), bits(2));
        NoonTrains day0 = Check.landed(fan);
        due("on DAY 0 START, a SEEKER elsewhere", day0.may(), bits(0));
    }

    private static void shown() {
        DOC.says("on a DAY on which HE shows himself it is just his STATION (or none, and to where HE is on the way). On DAY 0: START.");
        String fan = "land 6;train 0 1 1 0 1 0;train 0 2 1 0 1 0;train 0 3 1 0 2 0;train 0 4 1 0 2 0;";
        NoonTrains at = ridden(Check.landed(fan + "show 1"), 1);
        due("just 2", at.may(), bits(2));
        due("none on the way", at.way(), 0);
        NoonTrains way = ridden(Check.landed(fan + "show 1"), 3);
        due("none", way.may(), 0);
        due("just to 4", way.way(), bits(4));
        way.noon();
        due("on the DAY behind at 4", way.may(), bits(4));
        due("no more on the way", way.way(), 0);
        NoonTrains second = ridden(Check.landed(fan + "show 2"), 0);
        due("not on DAY 1", second.may(), bits(1, 2));
        due("nor the way", second.way(), bits(3, 4));
        due("on DAY 0", Check.landed(fan + "show 9;start 5").may(), bits(5));
        due("on DAY 0 no way", Check.landed(fan + "show 9;start 5").way(), 0);
        NoonTrains came = ridden(Check.landed(fan + "show 2"), 2, NONE);
        due("on DAY 2 just 3", came.may(), bits(3));
    }

    // ---- promises 16, 17

    private static void next() {
        DOC.says("NEXT: STATIONS at which HE may be at the next noon, by any KIND of which TICKETS are left or none, as above (SEEKERS left out of nothing).");
        String fan = STAR + "show 9;seeker 0 1;seeker 1 4";
        due("by all KINDS, to SEEKERS too", Check.landed(fan, "tickets 1 1 1").next(), bits(1, 2, 4));
        due("by KINDS 1 and 2", Check.landed(fan, "tickets 0 1 1").next(), bits(2, 4));
        due("by KINDS 0 and 2", Check.landed(fan, "tickets 1 0 1").next(), bits(1, 4));
        due("by KINDS 0 and 1", Check.landed(fan, "tickets 1 1 0").next(), bits(1, 2));
        due("by none HE stays", Check.landed(fan, "tickets 0 0 0").next(), bits(0));
        due("by 2 NIGHTS only: none", Check.landed("train 0 1 1 0 2 0").next(), 0);
        NoonTrains way = ridden(Check.landed("train 0 1 1 0 2 0;seeker 0 1;seeker 1 1"), 0);
        due("who is on the way comes, to SEEKERS too", way.next(), bits(1));
        NoonTrains none = Check.landed("land 4;train 0 1 1 0 1 0;train 0 2 1 0 1 0;train 1 3 1 0 1 1;tickets 1 1 0;show 9");
        due("2 stays, 1 goes to 3", ridden(none, 0).next(), bits(2, 3));
        due("at first HE stays", new NoonTrains().next(), bits(0));
    }

    private static void letter() {
        DOC.says("STATIONS by NEXT of what was KNOWN at the noon ahead, with TICKETS of that noon; where HE is not by SEEKERS, shows himself, is not told. On DAY 0: START.");
        due("on DAY 0", Check.landed(STAR + "start 3").letter(), bits(3));
        due("on DAY 0, CAUGHT", Check.landed(STAR + "start 3;seeker 0 3").letter(), bits(3));
        NoonTrains x = Check.landed(STAR + "tickets 1 1 1;seeker 0 4;show 1");
        ridden(x, 0);
        due("by any KIND that there was", x.letter(), bits(1, 2, 4));
        due("HE showed himself", x.may(), bits(1));
        NoonTrains last = ridden(Check.landed(STAR + "tickets 1 0 0;show 9"), 0);
        due("the TICKET of that noon", last.letter(), bits(1));
        ridden(last, NONE);
        due("there was none more: 1 stays", last.letter(), bits(1));
        NoonTrains way = ridden(Check.landed(STAR + "show 9;tickets 1 1 1"), 2);
        due("who set out by 2 NIGHTS is nowhere", way.letter(), bits(1, 2, 4));
        ridden(way, NONE);
        due("on the way a DAY ago, or at 2 and stays", way.letter(), bits(2, 3));
        NoonTrains back = ridden(Check.landed(STAR + "show 9"), 0);
        back.keep(0);
        ridden(back, 5);
        due("of DAY 2", back.letter(), bits(0));
        back.back(0);
        due("of DAY 1 again", back.letter(), bits(1, 2, 4));
    }

    // ---- promises 9 to 15

    private static void ride() {
        DOC.promise(9, "HE RIDES a TRAIN today (told again: the last): where HE will be.");
        NoonTrains x = Check.landed(STAR + "show 9");
        due("by one NIGHT", x.ride(0), 1);
        due("by two", x.ride(2), 3);
        due("told again", x.ride(1), 2);
        due("the same again", x.ride(1), 2);
        x.noon();
        due("the last counts", x.he(0), 2);
        due("by its TICKET", x.he(4), 8);
        due("not by those ahead", x.he(3), 9);
        DOC.promise(9, "UNKNOWN; NOT: HE is on the way, CAUGHT, it does not leave from there today, there is no TICKET.");
        NoonTrains y = Check.landed(STAR + "show 9;tickets 9 9 0");
        y.ride(1);
        int[] noTrains = {NONE, 6, 12, LOW, HIGH};
        for (int train : noTrains) {
            due("ride(" + train + ")", y.ride(train), UNKNOWN);
        }
        due("from elsewhere", y.ride(5), NOT);
        due("not today", y.ride(4), NOT);
        due("no TICKET", y.ride(3), NOT);
        y.noon();
        due("the one told ahead of refusals is ridden", y.he(0), 2);
        NoonTrains way = ridden(Check.landed(STAR + "train 3 0 1 0 1 0"), 2);
        due("on the way, from where it goes", way.ride(6), NOT);
        due("on the way, from where HE was", way.ride(0), NOT);
        due("on the way, no such one", way.ride(7), UNKNOWN);
        NoonTrains caught = Check.landed(STAR + "seeker 0 0");
        due("CAUGHT", caught.ride(0), NOT);
        due("CAUGHT, no such one", caught.ride(6), UNKNOWN);
        due("at first", new NoonTrains().ride(0), UNKNOWN);
    }

    private static void send() {
        DOC.promise(10, "A SEEKER rides a TRAIN today (told again: the last; NONE: it stays): where it will be.");
        NoonTrains x = Check.landed("land 4;train 1 2 1 0 1 0;train 1 3 1 0 1 0;seeker 0 1;seeker 1 1");
        due("to 2", x.send(0, 0), 2);
        due("told again", x.send(0, 1), 3);
        due("the other", x.send(1, 0), 2);
        due("it stays", x.send(1, NONE), 1);
        x.noon();
        due("the last counts", x.seeker(0), 3);
        due("NONE counts", x.seeker(1), 1);
        DOC.promise(10, "UNKNOWN; NOT: HE is CAUGHT; it is nowhere; the TRAIN does not leave from there today, is of 2 NIGHTS.");
        NoonTrains y = Check.landed("land 4;train 1 2 1 0 1 0;train 1 3 1 0 2 0;train 1 3 2 1 1 0;train 2 3 1 0 1 0;seeker 0 1");
        y.send(0, 0);
        int[] noSeekers = {NONE, 2, LOW, HIGH};
        int[] noTrains = {-2, 4, 12, LOW, HIGH};
        for (int seeker : noSeekers) {
            due("send(" + seeker + ", 0)", y.send(seeker, 0), UNKNOWN);
            due("send(" + seeker + ", NONE)", y.send(seeker, NONE), UNKNOWN);
        }
        for (int train : noTrains) {
            due("send(0, " + train + ")", y.send(0, train), UNKNOWN);
            due("send(1, " + train + ")", y.send(1, train), UNKNOWN);
        }
        due("nowhere", y.send(1, 0), NOT);
        due("nowhere, stays", y.send(1, NONE), NOT);
        due("from elsewhere", y.send(0, 3), NOT);
        due("not today", y.send(0, 2), NOT);
        due("of 2 NIGHTS", y.send(0, 1), NOT);
        y.noon();
        due("the one told ahead of refusals is ridden", y.seeker(0), 2);
        NoonTrains caught = Check.landed("land 4;train 0 2 1 0 1 0;seeker 0 0;seeker 1 0");
        due("CAUGHT", caught.send(1, 0), NOT);
        due("CAUGHT, stays", caught.send(0, NONE), NOT);
        due("CAUGHT, no such one", caught.send(0, 1), UNKNOWN);
        NoonTrains way = ridden(Check.landed("land 4;train 0 2 1 0 2 0;train 1 2 1 0 1 0;seeker 0 1"), 0);
        due("HE on the way", way.send(0, 1), 2);
        due("HE comes there too", way.noon(), 1);
    }

    private static void noon() {
        DOC.promise(11, "NOON: 0 HE goes on, 1 HE is CAUGHT.");
        NoonTrains x = Check.landed("land 3;train 0 1 1 0 1 0;train 1 2 1 0 1 0;seeker 0 2");
        x.ride(0);
        due("goes on", x.noon(), 0);
        x.ride(1);
        due("CAUGHT", x.noon(), 1);
        due("DAY", x.count(4), 2);
        DOC.promise(11, "NOT: HE is CAUGHT; HE can RIDE, and nothing is told.");
        due("CAUGHT", x.noon(), NOT);
        due("DAY stays", x.count(4), 2);
        NoonTrains y = Check.landed("land 3;train 0 1 1 0 1 0;train 1 2 1 0 1 0;train 2 1 1 0 1 0;seeker 0 2");
        y.send(0, 2);
        due("a SEEKER's ride told only", y.noon(), NOT);
        due("DAY stays", y.count(4), 0);
        due("nobody rode", y.seeker(0), 2);
        due("its ride stays told", y.ride(0), 1);
        due("HE comes where it comes", y.noon(), 1);
        due("CAUGHT on DAY 0", Check.landed("seeker 0 0").noon(), NOT);
        NoonTrains next = Check.landed("land 3;train 0 1 1 0 1 0;train 1 2 1 0 1 0");
        next.ride(0);
        next.noon();
        due("yesterday's is told no more", next.noon(), NOT);
        due("at 1", next.he(0), 1);
    }

    private static void he() {
        DOC.promise(12, "the STATION at which HE is, or to which HE is on the way (what 0), whether HE is on the way (1; 1, 0), CAUGHT (2), TICKETS of KIND 0, 1, 2 (3, 4, 5), TRAINS that HE can RIDE today, by bits (6).");
        NoonTrains x = Check.landed(STAR + "tickets 7 8 9;seeker 0 3");
        int[][] rows = {{0, 0, 0, 7, 8, 9, bits(0, 1, 2, 3)}, {3, 1, 0, 7, 7, 9, 0}, {3, 0, 1, 7, 7, 9, 0}};
        for (int[] row : rows) {
            for (int what = 0; what < row.length; what++) {
                due("he(" + what + ") on DAY " + x.count(4), x.he(what), row[what]);
            }
            x.ride(2);
            x.noon();
        }
        due("all twelve", Check.landed("train 0 1 1 0 1 0;train 0 1 1 0 1 0;train 0 1 1 0 1 0;train 0 1 1 0 1 0;train 0 1 1 0 1 0;"
                + "train 0 1 1 0 1 0", "train 0 1 1 0 1 0;train 0 1 1 0 1 0;train 0 1 1 0 1 0;train 0 1 1 0 1 0;train 0 1 1 0 1 0;"
                + "train 0 1 1 0 1 0").he(6), 4095);
        DOC.promise(12, "OUTSIDE.");
        int[] wrong = {-1, 7, LOW, HIGH};
        for (int what : wrong) {
            due("he(" + what + ")", x.he(what), OUTSIDE);
        }
    }

    private static void seeker() {
        DOC.promise(13, "Where a SEEKER is; NONE. UNKNOWN.");
        NoonTrains x = Check.landed("land 7;start 3;seeker 0 6");
        due("0", x.seeker(0), 6);
        due("1 nowhere", x.seeker(1), NONE);
        x.noon();
        due("1 still nowhere", x.seeker(1), NONE);
        int[] wrong = {-1, 2, LOW, HIGH};
        for (int seeker : wrong) {
            due("seeker(" + seeker + ")", x.seeker(seeker), UNKNOWN);
        }
        NoonTrains sent = Check.landed("land 3;train 1 2 1 0 1 0;seeker 1 1");
        sent.send(1, 0);
        due("sent, it is where it is until noon", sent.seeker(1), 1);
        sent.noon();
        due("then there", sent.seeker(1), 2);
    }

    private static void asked() {
        NoonTrains x = ridden(Check.landed("land 7;train 0 1 1 0 1 0;train 0 6 1 0 1 0;train 0 5 1 0 2 0;show 9"), 0);
        DOC.promise(14, "MAY.");
        due("may(), the last STATION too", x.may(), bits(1, 6));
        DOC.promise(15, "ON THE WAY.");
        due("way()", x.way(), bits(5));
        DOC.promise(16, "NEXT.");
        due("next()", x.next(), bits(1, 5, 6));
        DOC.promise(17, "LETTER.");
        due("letter()", x.letter(), bits(1, 6));
    }
}
