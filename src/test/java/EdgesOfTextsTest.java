/** What is told: each sentence of the document that names an edge of it, promises 1 to 8. */
public final class EdgesOfTextsTest {
    private static final int NONE = -1, UNKNOWN = -2, OUTSIDE = -3, NOT = -4, FULL = -5;
    private static final int LOW = Integer.MIN_VALUE, HIGH = Integer.MAX_VALUE;

    private static final Sentences DOC = new Sentences("EdgesOfTextsTest");

    public static void main(String[] args) {
        newObject();
        stations();
        trainsThatThereAre();
        partsOfTrains();
        himself();
        seekers();
        bytes();
        lines();
        forms();
        stationsOfLinesAhead();
        tokens();
        blanks();
        faultPlaces();
        earlierTexts();
        behindTheLines();
        write();
        eraseAndFault();
        land();
        train();
        runs();
        as();
        DOC.end(1, 8);
    }

    private static void due(String call, long got, long want) {
        DOC.due(call, got, want);
    }

    /** A text behind others that have landed: its fault, and that land() goes by it. */
    private static void faultBehind(String[] landed, String text, int want) {
        NoonTrains x = Check.landed(landed);
        int stations = x.count(0);
        int trains = x.count(1);
        Check.write(x, text);
        due("fault() of '" + text + "'", x.fault(), want);
        if (want == NONE) {
            due("land() of '" + text + "'", x.land(), text.split(";").length);
            return;
        }
        due("land() of '" + text + "'", x.land(), NOT);
        due("its bytes stay", x.count(5), text.length());
        due("its STATIONS are not done", x.count(0), stations);
        due("its TRAINS are not done", x.count(1), trains);
    }

    private static void fault(String text, int want) {
        faultBehind(new String[0], text, want);
    }

    private static void fits(String text) {
        fault(text, NONE);
    }

    private static String times(String line, int many) {
        StringBuilder text = new StringBuilder(line);
        for (int i = 1; i < many; i++) {
            text.append(';').append(line);
        }
        return text.toString();
    }

    private static String trains(int many) {
        return times("train 0 1 1 0 1 0", many);
    }

    private static NoonTrains ofTwelve() {
        return Check.landed(trains(10), trains(2));
    }

    // ---- promise 1, and what is so at first

    private static void newObject() {
        DOC.promise(1, "Three STATIONS, no TRAINS, nobody seeks.");
        NoonTrains x = new NoonTrains();
        due("count(0)", x.count(0), 3);
        due("runs(2, 0)", x.runs(2, 0), 0);
        due("runs(3, 0)", x.runs(3, 0), UNKNOWN);
        due("count(1)", x.count(1), 0);
        due("train(0, 0)", x.train(0, 0), UNKNOWN);
        due("count(7)", x.count(7), 0);
        due("chase()", x.chase(), NOT);
        due("count(2)", x.count(2), 0);
        due("count(4)", x.count(4), 0);
        due("count(5)", x.count(5), 0);
        due("count(6)", x.count(6), 0);
        due("fault()", x.fault(), 0);
        due("back(0)", x.back(0), NOT);
        due("back(1)", x.back(1), NOT);
    }

    private static void stations() {
        DOC.says("STATIONS are 0 .. n less 1 (n 2 ..");
        fault("land 0", 5);
        fault("land 1", 5);
        fits("land 2");
        for (int n = 2; n <= 7; n++) {
            NoonTrains x = Check.landed("land " + n);
            due("count(0) of " + n, x.count(0), n);
            due("the last of " + n, x.runs(n - 1, 0), 0);
            due("one behind the last of " + n, x.runs(n, 0), UNKNOWN);
            due("one ahead of the first of " + n, x.runs(-1, 0), UNKNOWN);
        }
        DOC.says("7; 3 at first)");
        fits("land 7");
        fault("land 8", 5);
        fault("land 70", 5);
        fits("start 2");
        fault("start 3", 6);
    }

    private static void trainsThatThereAre() {
        DOC.says("TRAINS are 0, 1 .. as they come, 12 at most (none at first)");
        due("none at first", new NoonTrains().train(0, 0), UNKNOWN);
        NoonTrains x = Check.landed("train 0 1 1 0 1 0;train 1 2 1 0 1 1", "train 2 0 4 3 2 2");
        due("from where the first goes", x.train(0, 0), 0);
        due("from where the second goes", x.train(1, 0), 1);
        due("from where one of a later text goes", x.train(2, 0), 2);
        due("there are three", x.count(1), 3);
        NoonTrains twelve = ofTwelve();
        due("there are twelve", twelve.count(1), 12);
        due("the twelfth", twelve.train(11, 1), 1);
        due("a thirteenth", twelve.train(12, 1), UNKNOWN);
        DOC.says("a thirteenth cannot stand there (at its word)");
        String[] ten = {trains(10)};
        String[] twelveOf = {trains(10), trains(2)};
        faultBehind(ten, trains(2), NONE);
        faultBehind(ten, trains(3), 36);
        faultBehind(ten, trains(2) + "; train", 37);
        faultBehind(twelveOf, trains(1), 0);
        faultBehind(twelveOf, "train 9 9 9 9 9 9", 0);
        faultBehind(twelveOf, "show 5", NONE);
        faultBehind(twelveOf, "land 2;" + trains(8), NONE);
        faultBehind(twelveOf, "show 4;" + trains(1) + ";land 2", 7);
    }

    private static void partsOfTrains() {
        DOC.says("from a STATION to another one");
        fault("train 0 0 1 0 1 0", 8);
        fault("train 2 02 1 0 1 0", 8);
        fits("train 0 2 1 0 1 0");
        fits("train 2 0 1 0 1 0");
        DOC.says("on DAYS t whose rest by E (1 .. 4) is R (below E)");
        fault("train 0 1 0 0 1 0", 10);
        fault("train 0 1 5 0 1 0", 10);
        for (int e = 1; e <= 4; e++) {
            fault("train 0 1 " + e + " " + e + " 1 0", 12);
            for (int r = 0; r < e; r++) {
                daysOf(e, r);
            }
        }
        DOC.says("for 1 NIGHT or 2");
        fault("train 0 1 1 0 0 0", 14);
        fits("train 0 1 1 0 1 0");
        fits("train 0 1 1 0 2 0");
        fault("train 0 1 1 0 3 0", 14);
        DOC.says("with a TICKET of a KIND (0 .. 2)");
        fits("train 0 1 1 0 1 0");
        fits("train 0 1 1 0 1 2");
        fault("train 0 1 1 0 1 3", 16);
    }

    private static void daysOf(int e, int r) {
        NoonTrains x = Check.landed("train 0 1 " + e + " " + r + " 1 0");
        for (int day = 0; day <= 12; day++) {
            due("by " + e + " rest " + r + " on DAY " + day, x.runs(0, day), day % e == r ? 1 : 0);
        }
        for (int back = 0; back < 4; back++) {
            due("on one of the last DAYS", x.runs(0, HIGH - back), (HIGH - back) % e == r ? 1 : 0);
        }
    }

    // ---- HE and SEEKERS

    private static void himself() {
        DOC.says("HE begins at START (0 at first)");
        due("START at first", new NoonTrains().count(2), 0);
        due("HE at first", new NoonTrains().he(0), 0);
        due("HE at the last STATION", Check.landed("land 7;start 6").he(0), 6);
        due("HE at the first", Check.landed("land 7;start 6;start 0").he(0), 0);
        DOC.says("has TICKETS of each KIND (0 .. 9; 9 at first)");
        for (int kind = 0; kind < 3; kind++) {
            due("at first", new NoonTrains().he(3 + kind), 9);
            due("none", Check.landed("tickets 0 0 0").he(3 + kind), 0);
            due("nine", Check.landed("tickets 9 9 9").he(3 + kind), 9);
        }
        fault("tickets 10 0 0", 8);
        fault("tickets 0 10 0", 10);
        fault("tickets 0 0 10", 12);
        DOC.says("tickets: of KINDS 0, 1, 2");
        NoonTrains some = Check.landed("tickets 1 2 3");
        for (int kind = 0; kind < 3; kind++) {
            due("of KIND " + kind, some.he(3 + kind), kind + 1);
        }
        DOC.says("shows himself on DAYS that SHOW (1 .. 9; 5 at first) divides (also DAY 0)");
        due("SHOW at first", new NoonTrains().count(3), 5);
        fault("show 0", 5);
        fault("show 10", 5);
        daysShown("start 0", 5);
        for (int show = 1; show <= 9; show++) {
            due("SHOW", Check.landed("show " + show).count(3), show);
            daysShown("show " + show, show);
        }
    }

    /** Three STATIONS, each with TRAINS to the others, by two KINDS: only a DAY shown tells where HE is. */
    private static void daysShown(String text, int show) {
        StringBuilder ring = new StringBuilder("land 3");
        StringBuilder again = new StringBuilder(text);
        for (int from = 0; from < 3; from++) {
            for (int to = 1; to < 3; to++) {
                ring.append(";train ").append(from).append(' ').append((from + to) % 3).append(" 1 0 1 0");
                again.append(";train ").append(from).append(' ').append((from + to) % 3).append(" 1 0 1 1");
            }
        }
        NoonTrains x = Check.landed(ring.toString(), again.toString());
        for (int day = 0; day <= 18; day++) {
            boolean shown = x.may() == 1 << x.he(0);
            DOC.holds("by SHOW " + show + " on DAY " + day, shown == (day % show == 0));
            x.ride(Integer.numberOfTrailingZeros(x.he(6)));
            x.noon();
        }
    }

    private static void seekers() {
        DOC.says("SEEKERS 0 and 1 are at a STATION or nowhere (as at first)");
        due("0 at first", new NoonTrains().seeker(0), NONE);
        due("1 at first", new NoonTrains().seeker(1), NONE);
        fits("seeker 0 0");
        fits("seeker 1 2");
        fault("seeker 2 0", 7);
        fault("seeker 0 3", 9);
        NoonTrains one = Check.landed("seeker 1 2");
        due("0 nowhere", one.seeker(0), NONE);
        due("1 at 2", one.seeker(1), 2);
        NoonTrains both = Check.landed("land 7;seeker 0 6;seeker 1 6");
        due("0 at the last", both.seeker(0), 6);
        due("1 there too", both.seeker(1), 6);
        DOC.says("seeker: begins at S");
        due("told twice, the last", Check.landed("seeker 0 2;seeker 0 1").seeker(0), 1);
    }

    // ---- THE TEXT

    private static void bytes() {
        DOC.says("THE TEXT is a row of bytes, 200 at most");
        NoonTrains x = new NoonTrains();
        StringBuilder text = new StringBuilder("show 6");
        text.setLength(199);
        due("199 bytes", Check.write(x, text.toString().replace((char) 0, ' ')), 199);
        due("two more", x.write(0x2020, 2), FULL);
        due("one more", x.write('a', 1), 200);
        due("the 200th is read", x.fault(), 199);
        due("a byte more", x.write(' ', 1), FULL);
        due("there are 200", x.count(5), 200);
        NoonTrains y = new NoonTrains();
        text.setLength(194);
        Check.write(y, text.toString().replace((char) 0, ' '));
        Check.write(y, ";show ");
        due("200 bytes that end too soon", y.fault(), 200);
        y.erase();
        text.setLength(193);
        Check.write(y, text.toString().replace((char) 0, ' ') + ";show 7");
        due("200 bytes are done", y.land(), 2);
        due("to the last byte", y.count(3), 7);
    }

    private static void lines() {
        DOC.says("LINES with ; (59) between, 1 to 10");
        fits("show 5");
        fits(times("show 5", 2));
        fits(times("show 5", 10));
        fault("show 5:show 5", 6);
        fault("show 5<show 5", 6);
        fault("show 5,show 5", 6);
        fault(";show 5", 0);
        fault("show 5;;show 5", 7);
        fault("show 5;", 7);
        DOC.says("an empty TEXT ends too soon");
        fault("", 0);
        fault(" ", 1);
        DOC.says("behind the 10th no ; can stand");
        fault(times("show 5", 10) + ";", 69);
        fault(times("show 5", 10) + "  ; show 5", 71);
        fault(times("show 5", 11), 69);
        fits(times("show 5", 9) + ";show 5   ");
        fault(times("show 5", 9) + ";", 63);
    }

    private static void forms() {
        DOC.says("land N. train A B E R K T. start S. tickets X Y Z. show E. seeker I S.");
        String[] whole = {"land 4", "train 0 1 1 0 1 0", "start 1", "tickets 3 3 3", "show 4", "seeker 1 1"};
        for (String line : whole) {
            fits(line);
            int last = line.lastIndexOf(' ');
            fault(line.substring(0, last), last);
            fault(line.substring(0, last) + ";" + line, last);
            fault(line + " 0", line.length() + 1);
            fault(line + ".", line.length());
            fault(line.substring(1), 0);
            fault(line.replaceFirst(" ", "s "), 0);
            fault(line.replaceFirst(" .*", "") + " " + line, line.indexOf(' ') + 1);
            for (int letter = 0; letter < line.indexOf(' '); letter++) {
                fault(line.substring(0, letter) + "x" + line.substring(letter + 1), 0);
            }
        }
        DOC.says("land: N STATIONS, no TRAINS, START 0, SEEKERS nowhere");
        NoonTrains x = Check.landed("train 0 1 1 0 1 0;start 1;seeker 0 2;seeker 1 0;tickets 1 2 3;show 7", "land 3");
        due("STATIONS", x.count(0), 3);
        due("TRAINS", x.count(1), 0);
        due("START", x.count(2), 0);
        due("SEEKERS", x.count(7), 0);
        due("seeker(0)", x.seeker(0), NONE);
        due("seeker(1)", x.seeker(1), NONE);
        due("TICKETS stay", x.he(5), 3);
        due("SHOW stays", x.count(3), 7);
        DOC.says("train: from A to B, B not A, K NIGHTS, KIND T, one more");
        NoonTrains y = Check.landed("land 7;train 5 6 4 3 2 1");
        int[] row = {5, 6, 4, 3, 2, 1};
        for (int what = 0; what < row.length; what++) {
            due("train(0, " + what + ")", y.train(0, what), row[what]);
        }
        due("one more", y.count(1), 1);
        fault("train 1 1 1 0 1 0", 8);
    }

    private static void stationsOfLinesAhead() {
        DOC.says("A, B, S of STATIONS that there are behind the LINES ahead");
        fits("land 4;train 3 0 1 0 1 0");
        fits("land 4;train 0 3 1 0 1 0");
        fits("land 4;start 3");
        fits("land 4;seeker 0 3");
        fault("land 4;train 4 0 1 0 1 0", 13);
        fault("land 4;train 0 4 1 0 1 0", 15);
        fault("land 4;start 4", 13);
        fault("land 4;seeker 0 4", 16);
        fault("start 3;land 4", 6);
        fault("land 4;land 3;start 3", 20);
        fault("land 2;seeker 1 2", 16);
        faultBehind(new String[] {"land 7"}, "start 6", NONE);
        faultBehind(new String[] {"land 7"}, "land 6;start 6", 13);
        faultBehind(new String[] {"land 7;start 6"}, "land 2", NONE);
    }

    private static void tokens() {
        DOC.says("small letters a .. z");
        fault("Show 5", 0);
        fault("sHow 5", 0);
        fault("shoW 5", 0);
        fault("show 5;SHOW 5", 7);
        fault("show`5", 4);
        fault("show{5", 4);
        DOC.says("numbers of 1 or 2 digits");
        fits("land 03;start 00;tickets 09 00 9;seeker 01 02;show 09;train 00 01 04 03 02 02");
        fault("show 005", 5);
        fault("start 000", 6);
        fault("tickets 1 2 003", 12);
        fault("show 4294967301", 5);
        fault("show +5", 5);
        fault("show -5", 5);
        fault("show x", 5);
        fault("show /", 5);
        fault("show :", 5);
        due("two digits are one number", Check.landed("show 08").count(3), 8);
    }

    private static void blanks() {
        DOC.says("blanks (32) may stand ahead of, between and behind TOKENS");
        fits("   show   5   ;   land   2   ");
        fits("  train  0  1  1  0  1  0  ");
        int[] others = {0, 9, 10, 13, 31, 33, 127, 160, 255};
        for (int other : others) {
            fault((char) other + "show 5", 0);
            fault("show" + (char) other + "5", 4);
            fault("show 5" + (char) other, 6);
        }
        DOC.says("none is needed but between two words, two numbers");
        fits("show5;land2;start1;seeker1 1;tickets1 2 3;train0 1 1 0 1 0");
        fault("showshow 5", 0);
        fault("show 5show 5", 6);
        fault("tickets 01 3", 12);
        fault("tickets 123", 8);
        fault("train 02 1 1 0 1", 16);
        fault("sh ow 5", 0);
    }

    private static void faultPlaces() {
        DOC.says("A FAULT is at the first TOKEN");
        fault("show 0;show 0", 5);
        fault("show 5;show 0;tram", 12);
        fault("train 9 9 9 9 9 9", 6);
        fault("tram 0 0", 0);
        DOC.says("(a row of small letters, a row of digits, any other byte)");
        fault("show 5;trains 0", 7);
        fault("show 5 abc", 7);
        fault("show 5 123", 7);
        fault("show 5 ..", 7);
        fault("show5x5", 5);
        fault("show 5;" + (char) 255 + (char) 255, 7);
        fault("show 5;1", 7);
        fault("show;5", 4);
        DOC.says("(a number out of its bounds, of more digits, also)");
        fault("  show   10  ", 9);
        fault("  show   100  ", 9);
        fault("tickets 9 9 99", 12);
        DOC.says("or at the end, if it comes too soon");
        fault("show", 4);
        fault("show   ", 7);
        fault("tickets 9 9", 11);
        fault("seeker 1 ", 9);
        fault("show 5;  ", 9);
        fault("show 5;train 0 1 1 0 1", 22);
    }

    private static void earlierTexts() {
        DOC.says("what earlier texts told stays");
        NoonTrains x = Check.landed("land 5;train 0 1 1 0 1 0", "start 2", "tickets 1 2 3", "show 7", "seeker 1 4", "seeker 0 3");
        int[] counts = {5, 1, 2, 7, 0, 0, 0, 3};
        for (int what = 0; what < counts.length; what++) {
            due("count(" + what + ")", x.count(what), counts[what]);
        }
        due("he(4)", x.he(4), 2);
        due("seeker(1)", x.seeker(1), 4);
        due("seeker(0)", x.seeker(0), 3);
        DOC.says("LINES are done in their order.");
        due("START", Check.landed("start 1;start 2").count(2), 2);
        due("START behind land", Check.landed("start 1;land 3").count(2), 0);
        due("SHOW", Check.landed("show 1;show 2;show 3").count(3), 3);
        due("TRAINS behind land", Check.landed("train 0 1 1 0 1 0;land 3;train 1 2 1 0 1 0").train(0, 0), 1);
        due("SEEKERS behind land", Check.landed("seeker 0 1;land 3;seeker 1 1").count(7), 2);
    }

    private static void behindTheLines() {
        DOC.says("Behind them it is DAY 0, noon, all is as told, HE is at START, nothing is ridden, THE LOG is empty, nothing is kept.");
        NoonTrains x = Check.landed("land 4;train 0 1 1 0 2 0;train 2 3 1 0 1 0;seeker 0 2;seeker 1 3;tickets 4 5 6");
        x.ride(0);
        x.send(0, 1);
        x.noon();
        x.keep(0);
        x.keep(1);
        x.log(0);
        x.noon();
        Check.write(x, "show 8");
        due("land()", x.land(), 1);
        due("DAY", x.count(4), 0);
        due("SEEKER 0 as told", x.seeker(0), 2);
        due("SEEKER 1 as told", x.seeker(1), 3);
        due("TICKETS as told", x.he(3), 4);
        due("HE is at START", x.he(0), 0);
        due("not on the way", x.he(1), 0);
        due("MAY", x.may(), 1);
        due("ON THE WAY", x.way(), 0);
        due("LETTER", x.letter(), 1);
        due("THE LOG", x.count(6), 0);
        due("back(0)", x.back(0), NOT);
        due("back(1)", x.back(1), NOT);
        due("nothing is ridden", x.noon(), NOT);
        x.ride(0);
        x.send(0, 1);
        Check.write(x, "show 8");
        x.land();
        due("what was told for the day is told no more", x.noon(), NOT);
        NoonTrains way = Check.landed("land 4;train 0 1 1 0 2 0;seeker 0 2");
        way.ride(0);
        way.noon();
        Check.write(way, "show 8");
        way.land();
        due("who was on the way is at START", way.he(1), 0);
        due("none is on the way", way.way(), 0);
        x.ride(0);
        x.noon();
        due("nor for a SEEKER", x.seeker(0), 2);
        DOC.says("(With a SEEKER at START HE is CAUGHT.)");
        due("SEEKER 0", Check.landed("start 2;seeker 0 2").he(2), 1);
        due("SEEKER 1", Check.landed("start 2;seeker 1 2").he(2), 1);
        due("no SEEKER", Check.landed("start 2;seeker 0 1;seeker 1 0").he(2), 0);
        due("START told behind", Check.landed("seeker 1 2;start 2").he(2), 1);
        NoonTrains free = Check.landed("seeker 0 0", "seeker 0 1");
        due("a later text frees him", free.he(2), 0);
        due("and it goes on", free.noon(), 0);
    }

    // ---- promises 2 to 8

    private static void write() {
        DOC.promise(2, "n (1 .. 8) bytes more of THE TEXT");
        NoonTrains x = new NoonTrains();
        int[] wrong = {0, -1, 9, 16, 200, LOW, HIGH};
        for (int n : wrong) {
            due("write(.., " + n + ")", x.write(-1L, n), OUTSIDE);
        }
        due("nothing was written", x.count(5), 0);
        int sum = 0;
        for (int n = 1; n <= 8; n++) {
            sum += n;
            due("write(.., " + n + ")", x.write(Long.MIN_VALUE, n), sum);
        }
        DOC.promise(2, "byte i being bytes >> 8 i & 255");
        NoonTrains y = new NoonTrains();
        due("bytes beyond n do not count", y.write(0xffffff00_00000000L | 's', 1), 1);
        due("byte 0 first", y.write('h' | 'o' << 8 | 'w' << 16 | '5' << 24, 4), 5);
        due("they are read so", y.fault(), NONE);
        due("the greatest long", y.write(Long.MAX_VALUE, 8), 13);
        due("its bytes are 255, the last 127", y.fault(), 5);
        y.erase();
        y.write(0x3577_6f68_7320_2020L, 8);
        due("byte 7 is the highest", y.fault(), NONE);
        y.write(0xBBL << 56 | 0x20202020202020L, 8);
        due("with its highest bit", y.fault(), 15);
        DOC.promise(2, "OUTSIDE; FULL.");
        NoonTrains z = new NoonTrains();
        for (int i = 0; i < 24; i++) {
            z.write(0, 8);
        }
        due("to 196", z.write(0, 4), 196);
        for (int n = 5; n <= 8; n++) {
            due("write(.., " + n + ") at 196", z.write(0, n), FULL);
        }
        due("OUTSIDE first", z.write(0, 9), OUTSIDE);
        due("still 196", z.count(5), 196);
        due("just full", z.write(0, 4), 200);
        due("n 1 when full", z.write(0, 1), FULL);
        due("n 0 when full", z.write(0, 0), OUTSIDE);
    }

    private static void eraseAndFault() {
        DOC.promise(3, "THE TEXT is empty: how many bytes it had.");
        NoonTrains x = new NoonTrains();
        due("of an empty one", x.erase(), 0);
        for (int i = 0; i < 25; i++) {
            x.write(-1, 8);
        }
        due("of a full one", x.erase(), 200);
        due("it is empty", x.count(5), 0);
        due("there is room again", x.write(0, 8), 8);
        due("of 8", x.erase(), 8);
        Check.write(x, "show 7");
        x.land();
        due("of one that has landed", x.erase(), 0);
        due("what it told stays", x.count(3), 7);
        DOC.promise(4, "The place of the FAULT (the byte with which the TOKEN begins, or the length); NONE.");
        fault("show 12", 5);
        fault("show 5   seeker", 9);
        fault("show", 4);
        fits("show 5");
        NoonTrains y = new NoonTrains();
        Check.write(y, "show 4");
        due("NONE", y.fault(), NONE);
        due("nothing is done by it", y.count(3), 5);
        due("asked again", y.fault(), NONE);
        y.write(';', 1);
        due("by what is written now", y.fault(), 7);
    }

    private static void land() {
        DOC.promise(5, "THE TEXT's LINES are done, and it is empty then: how many there were.");
        for (int many = 1; many <= 10; many++) {
            NoonTrains x = new NoonTrains();
            Check.write(x, times("show 4", many));
            due("land() of " + many, x.land(), many);
            due("it is empty", x.count(5), 0);
            due("they are done", x.count(3), 4);
        }
        DOC.promise(5, "NOT: it has a FAULT.");
        NoonTrains x = Check.landed("land 4;train 0 1 1 0 1 0;start 0;seeker 0 3;show 4");
        x.ride(0);
        x.noon();
        x.log(0);
        x.keep(1);
        due("of an empty one", x.land(), NOT);
        Check.write(x, "land 2;start 1;tickets 0 0 0;show 2;seeker 0 0;train 1 0 1 0 1 0;");
        due("with a FAULT at the end", x.land(), NOT);
        int[] counts = {4, 1, 0, 4, 1, 65, 1, 1};
        for (int what = 0; what < counts.length; what++) {
            due("count(" + what + ")", x.count(what), counts[what]);
        }
        due("he(0)", x.he(0), 1);
        due("he(3)", x.he(3), 8);
        due("seeker(0)", x.seeker(0), 3);
        due("the TRAIN", x.train(0, 0), 0);
        due("what was kept", x.back(1), 1);
        Check.write(x, "show 9");
        due("written on", x.land(), 7);
    }

    private static void train() {
        DOC.promise(6, "from where (what 0), to where (1), E (2), R (3), NIGHTS (4), KIND (5)");
        NoonTrains x = Check.landed("land 7;train 6 5 4 3 2 1;train 0 6 3 2 1 2");
        int[][] rows = {{6, 5, 4, 3, 2, 1}, {0, 6, 3, 2, 1, 2}};
        for (int train = 0; train < 2; train++) {
            for (int what = 0; what < 6; what++) {
                due("train(" + train + ", " + what + ")", x.train(train, what), rows[train][what]);
            }
        }
        DOC.promise(6, "UNKNOWN; OUTSIDE.");
        int[] noTrains = {-1, 2, 12, LOW, HIGH};
        int[] noParts = {-1, 6, LOW, HIGH};
        for (int train : noTrains) {
            due("train(" + train + ", 0)", x.train(train, 0), UNKNOWN);
            due("train(" + train + ", 6)", x.train(train, 6), UNKNOWN);
        }
        for (int what : noParts) {
            due("train(1, " + what + ")", x.train(1, what), OUTSIDE);
        }
        due("of none at all", new NoonTrains().train(0, 6), UNKNOWN);
        NoonTrains gone = Check.landed(trains(3), "land 3;" + trains(1));
        due("one that land took away", gone.train(1, 0), UNKNOWN);
    }

    private static void runs() {
        DOC.promise(7, "TRAINS from a STATION that run on a DAY, by bits.");
        NoonTrains x = ofTwelve();
        due("all twelve", x.runs(0, 0), 4095);
        due("from elsewhere", x.runs(1, 0), 0);
        due("the greatest DAY", x.runs(0, HIGH), 4095);
        NoonTrains y = Check.landed("train 0 1 1 0 2 0;train 0 2 2 1 1 2;tickets 0 0 0;seeker 0 0");
        due("tickets, nights, CAUGHT do not count", y.runs(0, 1), 3);
        DOC.promise(7, "UNKNOWN; OUTSIDE: day below 0.");
        int[] noStations = {-1, 3, 7, LOW, HIGH};
        for (int station : noStations) {
            due("runs(" + station + ", 0)", x.runs(station, 0), UNKNOWN);
            due("runs(" + station + ", -1)", x.runs(station, -1), UNKNOWN);
        }
        due("runs(2, -1)", x.runs(2, -1), OUTSIDE);
        due("runs(0, least)", x.runs(0, LOW), OUTSIDE);
        due("runs(2, 0)", x.runs(2, 0), 0);
    }

    private static void as() {
        DOC.promise(8, "0 any, 1 of 1 NIGHT, 2 of 2 NIGHTS, 3 of a KIND that HE has no TICKET of now: its KIND.");
        NoonTrains x = Check.landed("train 0 1 1 0 1 0;train 0 1 1 0 2 2;train 1 2 1 0 1 1;tickets 1 0 9");
        int[][] rows = {{0, 0, NOT, NOT}, {2, NOT, 2, NOT}, {1, 1, NOT, 1}};
        for (int train = 0; train < 3; train++) {
            for (int as = 0; as < 4; as++) {
                due("as(" + train + ", " + as + ")", x.as(train, as), rows[train][as]);
            }
        }
        x.keep(0);
        x.ride(0);
        due("told, not yet ridden", x.as(0, 3), NOT);
        x.noon();
        due("the last was used", x.as(0, 3), 0);
        x.back(0);
        due("back, HE has it", x.as(0, 3), NOT);
        DOC.promise(8, "UNKNOWN; OUTSIDE; NOT: it is none such.");
        int[] noTrains = {-1, 3, LOW, HIGH};
        int[] noAs = {-1, 4, LOW, HIGH};
        for (int train : noTrains) {
            due("as(" + train + ", 0)", x.as(train, 0), UNKNOWN);
            due("as(" + train + ", 4)", x.as(train, 4), UNKNOWN);
        }
        for (int as : noAs) {
            due("as(0, " + as + ")", x.as(0, as), OUTSIDE);
        }
        due("as(0, 2)", x.as(0, 2), NOT);
        due("as(1, 1)", x.as(1, 1), NOT);
        due("as(1, 3)", x.as(1, 3), NOT);
    }
}
