import java.util.Arrays;

/** Hide and seek by timetable; ../shared/DOC.md says what each call promises. */
public final class NoonTrains {
    public static final int NONE = -1, UNKNOWN = -2, OUTSIDE = -3, NOT = -4, FULL = -5;

    private static final int MOST_STATIONS = 7, MOST_TRAINS = 12, MOST_TICKETS = 9;
    private static final int KINDS = 3, ALL_KINDS = (1 << KINDS) - 1, SEEKERS = 2, IMAGES = 2;
    private static final int MOST_BYTES = 200, MOST_LINES = 10, MOST_RIDES = 12;
    private static final int LAST_LATE_DAY = 40, MOST_CHASE_DAYS = 12;

    /** What a row of a train tells, in the order of the text and of train(). */
    private static final int FROM = 0, TO = 1, EVERY = 2, REST = 3, NIGHTS = 4, KIND = 5, ROW = 6;

    /** The place of a seeker who is nowhere, where places are counted from 0. */
    private static final int NOWHERE = MOST_STATIONS, PLACES = MOST_STATIONS + 1;

    private final Text text = new Text();
    private final Land told = new Land();
    private final Reader reader = new Reader(text);
    private final Scene now = new Scene(told);
    private final Scene imageZero = new Scene(told);
    private final Scene imageOne = new Scene(told);
    private final Foresight foresight = new Foresight(told, now);
    private final Pursuit pursuit = new Pursuit(told, now);
    private final Rides rides = new Rides(told);
    private int keptBits = 0;

    public NoonTrains() {
    }

    // ---- what is told

    public int write(long bytes, int n) {
        if (!within(n, 1, 8)) {
            return OUTSIDE;
        }
        if (n > MOST_BYTES - text.length) {
            return FULL;
        }
        for (int i = 0; i < n; i++) {
            text.append((int) (bytes >> 8 * i & 255));
        }
        return text.length;
    }

    public int erase() {
        int had = text.length;
        text.length = 0;
        return had;
    }

    public int fault() {
        return reader.firstFault(told);
    }

    public int land() {
        if (reader.firstFault(told) != NONE) {
            return NOT;
        }
        told.copy(reader.draft);
        text.length = 0;
        now.begin();
        rides.length = 0;
        keptBits = 0;
        return reader.lines;
    }

    public int train(int train, int what) {
        if (!told.hasTrain(train)) {
            return UNKNOWN;
        }
        return within(what, 0, ROW - 1) ? told.part(train, what) : OUTSIDE;
    }

    public int runs(int station, int day) {
        if (!told.hasStation(station)) {
            return UNKNOWN;
        }
        return day < 0 ? OUTSIDE : told.rideable(station, day, ALL_KINDS);
    }

    public int as(int train, int as) {
        if (!told.hasTrain(train)) {
            return UNKNOWN;
        }
        if (!within(as, 0, 3)) {
            return OUTSIDE;
        }
        return isSuch(train, as) ? told.part(train, KIND) : NOT;
    }

    private boolean isSuch(int train, int as) {
        switch (as) {
            case 0:
                return true;
            case 3:
                return now.ticketsOf(told.part(train, KIND)) == 0;
            default:
                return told.part(train, NIGHTS) == as;
        }
    }

    // ---- noons

    public int ride(int train) {
        if (!told.hasTrain(train)) {
            return UNKNOWN;
        }
        if ((now.rideable() >> train & 1) == 0) {
            return NOT;
        }
        now.ridden = train;
        return told.part(train, TO);
    }

    public int send(int seeker, int train) {
        if (!isSeeker(seeker) || train != NONE && !told.hasTrain(train)) {
            return UNKNOWN;
        }
        if (now.caught || !now.canSend(seeker, train)) {
            return NOT;
        }
        now.sent[seeker] = train;
        return now.placeBehind(seeker);
    }

    public int noon() {
        if (now.caught || now.ridden == NONE && now.rideable() != 0) {
            return NOT;
        }
        now.advance();
        return now.caught ? 1 : 0;
    }

    public int he(int what) {
        switch (what) {
            case 0:
                return now.station;
            case 1:
                return now.onWay ? 1 : 0;
            case 2:
                return now.caught ? 1 : 0;
            case 3:
            case 4:
            case 5:
                return now.ticketsOf(what - 3);
            case 6:
                return now.rideable();
            default:
                return OUTSIDE;
        }
    }

    public int seeker(int seeker) {
        return isSeeker(seeker) ? now.seekers[seeker] : UNKNOWN;
    }

    // ---- what is known

    public int may() {
        return now.mayBits;
    }

    public int way() {
        return now.wayBits;
    }

    public int next() {
        return now.nextBits();
    }

    public int letter() {
        return now.letterBits;
    }

    // ---- foretold

    public int shut(int seeker) {
        if (seeker != NONE && !isSeeker(seeker)) {
            return UNKNOWN;
        }
        if (now.caught) {
            return NOT;
        }
        foresight.stand();
        if (seeker == NONE) {
            return foresight.most;
        }
        int place = seeker == 0 ? foresight.placeZero : foresight.placeOne;
        return place == NOWHERE ? NONE : place;
    }

    public int hides(int what) {
        if (!within(what, 0, 1)) {
            return OUTSIDE;
        }
        if (now.caught || now.onWay) {
            return NOT;
        }
        foresight.hide();
        return what == 0 ? foresight.hidingTrain : foresight.most;
    }

    public int chase() {
        if (now.onWay || !now.anySeeks()) {
            return NOT;
        }
        return daysOrNone(pursuit.fewestDays(NONE, MOST_CHASE_DAYS));
    }

    public int closed(int what) {
        if (!within(what, 0, 1)) {
            return OUTSIDE;
        }
        if (now.onWay || !now.anySeeks()) {
            return NOT;
        }
        if (told.trains == 0) {
            return NONE;
        }
        pursuit.close();
        return what == 0 ? pursuit.closedTrain : daysOrNone(pursuit.closedDays);
    }

    private static int daysOrNone(int days) {
        return days > MOST_CHASE_DAYS ? NONE : days;
    }

    // ---- the log, lateness

    public int log(int train) {
        if (!told.hasTrain(train)) {
            return UNKNOWN;
        }
        return rides.append(train) ? rides.length : FULL;
    }

    public int burn() {
        int had = rides.length;
        rides.length = 0;
        return had;
    }

    public int judge() {
        return rides.firstImpossible();
    }

    public long late(int p, int d, int part) {
        if (!within(p, 0, 10) || !within(d, 0, LAST_LATE_DAY) || !within(part, 0, 1)) {
            return OUTSIDE;
        }
        long above = rides.waysInTime(p, d);
        long below = rides.waysInAll();
        long shared = commonDivisor(above, below);
        if (shared < 1) {
            return part == 0 ? above : below;
        }
        return part == 0 ? above / shared : below / shared;
    }

    public int keep(int k) {
        if (!within(k, 0, IMAGES - 1)) {
            return UNKNOWN;
        }
        image(k).copy(now);
        keptBits |= 1 << k;
        return now.day;
    }

    public int back(int k) {
        if (!within(k, 0, IMAGES - 1)) {
            return UNKNOWN;
        }
        if ((keptBits >> k & 1) == 0) {
            return NOT;
        }
        now.copy(image(k));
        return now.day;
    }

    public int count(int what) {
        switch (what) {
            case 0:
                return told.stations;
            case 1:
                return told.trains;
            case 2:
                return told.start;
            case 3:
                return told.show;
            case 4:
                return now.day;
            case 5:
                return text.length;
            case 6:
                return rides.length;
            case 7:
                return now.seekingBits();
            default:
                return OUTSIDE;
        }
    }

    private Scene image(int k) {
        return k == 0 ? imageZero : imageOne;
    }

    private static boolean isSeeker(int seeker) {
        return within(seeker, 0, SEEKERS - 1);
    }

    private static boolean within(int value, int least, int most) {
        return value >= least && value <= most;
    }

    private static boolean hasBit(int bits, int place) {
        return (bits >> place & 1) != 0;
    }

    private static long commonDivisor(long first, long second) {
        long greater = first;
        long lesser = second;
        for (int step = 0; step < 1000 && lesser != 0; step++) {
            long rest = greater % lesser;
            greater = lesser;
            lesser = rest;
        }
        return greater;
    }

    /** The bytes written and not yet done. */
    private static final class Text {
        private final char[] bytes = new char[MOST_BYTES];
        int length = 0;

        void append(int value) {
            if (within(length, 0, MOST_BYTES - 1)) {
                bytes[length] = (char) value;
                length++;
            }
        }

        int byteAt(int place) {
            return place >= 0 && place < length && place < MOST_BYTES ? bytes[place] : NONE;
        }
    }

    /** What the texts have told: the timetable and how the game begins. */
    private static final class Land {
        int stations = 3;
        int trains = 0;
        int start = 0;
        int show = 5;
        private final int[] rows = new int[MOST_TRAINS * ROW];
        private final int[] tickets = {MOST_TICKETS, MOST_TICKETS, MOST_TICKETS};
        private final int[] seekers = {NONE, NONE};

        void copy(Land other) {
            stations = other.stations;
            trains = other.trains;
            start = other.start;
            show = other.show;
            System.arraycopy(other.rows, 0, rows, 0, MOST_TRAINS * ROW);
            System.arraycopy(other.tickets, 0, tickets, 0, KINDS);
            System.arraycopy(other.seekers, 0, seekers, 0, SEEKERS);
        }

        void clear(int newStations) {
            stations = newStations;
            trains = 0;
            start = 0;
            Arrays.fill(seekers, NONE);
        }

        void setPart(int train, int what, int value) {
            if (within(train, 0, MOST_TRAINS - 1) && within(what, 0, ROW - 1)) {
                rows[train * ROW + what] = value;
            }
        }

        void setTickets(int kind, int many) {
            if (within(kind, 0, KINDS - 1)) {
                tickets[kind] = many;
            }
        }

        void setSeeker(int seeker, int station) {
            if (isSeeker(seeker)) {
                seekers[seeker] = station;
            }
        }

        boolean hasStation(int station) {
            return station >= 0 && station < stations;
        }

        boolean hasTrain(int train) {
            return train >= 0 && train < trains;
        }

        boolean isFull() {
            return trains >= MOST_TRAINS;
        }

        int part(int train, int what) {
            boolean there = train >= 0 && train < trains && train < MOST_TRAINS;
            return there && what >= 0 && what < ROW ? rows[train * ROW + what] : NONE;
        }

        boolean runsOn(int train, int day) {
            int every = part(train, EVERY);
            return every > 0 && day % every == part(train, REST);
        }

        boolean leaves(int train, int station, int day) {
            return part(train, FROM) == station && runsOn(train, day);
        }

        /** Trains that leave a station on a day, of kinds given by bits. */
        int rideable(int station, int day, int kinds) {
            int bits = 0;
            for (int train = 0; train < trains; train++) {
                if (leaves(train, station, day) && hasBit(kinds, part(train, KIND))) {
                    bits |= 1 << train;
                }
            }
            return bits;
        }

        /** Where trains of some nights and kinds go that leave stations of a set on a day. */
        int reached(int from, int day, int kinds, int nights) {
            int bits = 0;
            for (int train = 0; train < trains; train++) {
                if (part(train, NIGHTS) == nights && hasBit(kinds, part(train, KIND))
                        && hasBit(from, part(train, FROM)) && runsOn(train, day)) {
                    bits |= 1 << part(train, TO);
                }
            }
            return bits;
        }

        /** Stations of a set from which no train of these kinds leaves on a day. */
        int stuck(int from, int day, int kinds) {
            int bits = from;
            for (int train = 0; train < trains; train++) {
                if (runsOn(train, day) && hasBit(kinds, part(train, KIND))) {
                    bits &= ~(1 << part(train, FROM));
                }
            }
            return bits;
        }
    }

    /** Reads the text to its first fault, doing its lines on a draft of what is told. */
    private static final class Reader {
        private static final int END = 0, WORD = 1, NUMBER = 2, OTHER = 3;
        private static final int NO_LINE = 0, LAND = 1, TRAIN = 2, START = 3, TICKETS = 4, SHOW = 5, SEEKER = 6;

        private final Text text;
        final Land draft = new Land();
        int lines = 0;
        private final int[] fields = new int[ROW];
        private int tokenSort = END;
        private int tokenAt = 0;
        private int tokenPast = 0;

        Reader(Text text) {
            this.text = text;
        }

        /** The place of the fault, or NONE: then the draft holds what the text tells. */
        int firstFault(Land told) {
            draft.copy(told);
            lines = 0;
            tokenPast = 0;
            for (int line = 0; line < MOST_LINES; line++) {
                if (!readLine()) {
                    return tokenAt;
                }
                lines = line + 1;
                step();
                if (tokenSort == END) {
                    return NONE;
                }
                if (text.byteAt(tokenAt) != ';') {
                    return tokenAt;
                }
            }
            return tokenAt;
        }

        private boolean readLine() {
            step();
            int line = lineOfWord();
            if (line == NO_LINE || line == TRAIN && draft.isFull()) {
                return false;
            }
            for (int i = 0; i < fieldsOf(line); i++) {
                step();
                int value = tokenValue();
                if (value < 0 || !fits(line, i, value)) {
                    return false;
                }
                fields[i] = value;
            }
            draw(line);
            return true;
        }

        private void step() {
            int place = tokenPast;
            while (place < text.length && text.byteAt(place) == ' ') {
                place++;
            }
            tokenAt = place;
            tokenSort = sortAt(place);
            if (tokenSort != END) {
                place++;
            }
            while (tokenSort != OTHER && place < text.length && sortAt(place) == tokenSort) {
                place++;
            }
            tokenPast = place;
        }

        private int sortAt(int place) {
            int value = text.byteAt(place);
            if (value == NONE) {
                return END;
            }
            if (within(value, 'a', 'z')) {
                return WORD;
            }
            return within(value, '0', '9') ? NUMBER : OTHER;
        }

        private int lineOfWord() {
            if (spells("land")) {
                return LAND;
            }
            if (spells("train")) {
                return TRAIN;
            }
            if (spells("start")) {
                return START;
            }
            if (spells("tickets")) {
                return TICKETS;
            }
            if (spells("show")) {
                return SHOW;
            }
            return spells("seeker") ? SEEKER : NO_LINE;
        }

        private boolean spells(String word) {
            if (tokenPast - tokenAt != word.length()) {
                return false;
            }
            for (int i = 0; i < word.length(); i++) {
                if (text.byteAt(tokenAt + i) != word.charAt(i)) {
                    return false;
                }
            }
            return true;
        }

        /** The token's number, or NONE if it is none of one or two digits. */
        private int tokenValue() {
            int digits = tokenPast - tokenAt;
            if (tokenSort != NUMBER || digits > 2) {
                return NONE;
            }
            int value = text.byteAt(tokenAt) - '0';
            return digits == 1 ? value : value * 10 + text.byteAt(tokenAt + 1) - '0';
        }

        private static int fieldsOf(int line) {
            switch (line) {
                case TRAIN:
                    return ROW;
                case TICKETS:
                    return KINDS;
                case SEEKER:
                    return 2;
                default:
                    return 1;
            }
        }

        private boolean fits(int line, int i, int value) {
            switch (line) {
                case LAND:
                    return within(value, 2, MOST_STATIONS);
                case TRAIN:
                    return fitsTrain(i, value);
                case START:
                    return draft.hasStation(value);
                case TICKETS:
                    return value <= MOST_TICKETS;
                case SHOW:
                    return within(value, 1, 9);
                default:
                    return i == 0 ? isSeeker(value) : draft.hasStation(value);
            }
        }

        private boolean fitsTrain(int i, int value) {
            switch (i) {
                case FROM:
                    return draft.hasStation(value);
                case TO:
                    return draft.hasStation(value) && value != fields[FROM];
                case EVERY:
                    return within(value, 1, 4);
                case REST:
                    return value < fields[EVERY];
                case NIGHTS:
                    return within(value, 1, 2);
                default:
                    return value < KINDS;
            }
        }

        private void draw(int line) {
            switch (line) {
                case LAND:
                    draft.clear(fields[0]);
                    break;
                case TRAIN:
                    drawTrain();
                    break;
                case START:
                    draft.start = fields[0];
                    break;
                case TICKETS:
                    for (int kind = 0; kind < KINDS; kind++) {
                        draft.setTickets(kind, fields[kind]);
                    }
                    break;
                case SHOW:
                    draft.show = fields[0];
                    break;
                default:
                    draft.setSeeker(fields[0], fields[1]);
                    break;
            }
        }

        private void drawTrain() {
            for (int what = 0; what < ROW; what++) {
                draft.setPart(draft.trains, what, fields[what]);
            }
            draft.trains++;
        }
    }

    /** One noon: the day, where all are, what is told for today, tickets, what is known. */
    private static final class Scene {
        private final Land land;
        int day;
        int station;
        boolean onWay;
        boolean caught;
        int ridden;
        final int[] tickets = new int[KINDS];
        final int[] seekers = new int[SEEKERS];
        final int[] sent = new int[SEEKERS];
        int mayBits;
        int wayBits;
        int letterBits;

        Scene(Land land) {
            this.land = land;
            begin();
        }

        void begin() {
            day = 0;
            station = land.start;
            onWay = false;
            System.arraycopy(land.tickets, 0, tickets, 0, KINDS);
            System.arraycopy(land.seekers, 0, seekers, 0, SEEKERS);
            forgetToday();
            caught = isWithSeeker();
            mayBits = 1 << station;
            wayBits = 0;
            letterBits = mayBits;
        }

        void copy(Scene other) {
            day = other.day;
            station = other.station;
            onWay = other.onWay;
            caught = other.caught;
            ridden = other.ridden;
            System.arraycopy(other.tickets, 0, tickets, 0, KINDS);
            System.arraycopy(other.seekers, 0, seekers, 0, SEEKERS);
            System.arraycopy(other.sent, 0, sent, 0, SEEKERS);
            mayBits = other.mayBits;
            wayBits = other.wayBits;
            letterBits = other.letterBits;
        }

        private void forgetToday() {
            ridden = NONE;
            Arrays.fill(sent, NONE);
        }

        int ticketsOf(int kind) {
            return within(kind, 0, KINDS - 1) ? tickets[kind] : 0;
        }

        int kindsLeft() {
            int bits = 0;
            for (int kind = 0; kind < KINDS; kind++) {
                if (tickets[kind] > 0) {
                    bits |= 1 << kind;
                }
            }
            return bits;
        }

        int seekingBits() {
            int bits = 0;
            for (int seeker = 0; seeker < SEEKERS; seeker++) {
                if (seekers[seeker] != NONE) {
                    bits |= 1 << seeker;
                }
            }
            return bits;
        }

        boolean anySeeks() {
            return seekingBits() != 0;
        }

        /** Trains that HE can ride today, by bits. */
        int rideable() {
            return onWay || caught ? 0 : land.rideable(station, day, kindsLeft());
        }

        boolean canSend(int seeker, int train) {
            if (!isSeeker(seeker) || seekers[seeker] == NONE) {
                return false;
            }
            return train == NONE
                    || land.leaves(train, seekers[seeker], day) && land.part(train, NIGHTS) == 1;
        }

        /** Where a seeker is at the next noon by what is told for today. */
        int placeBehind(int seeker) {
            if (!isSeeker(seeker)) {
                return NONE;
            }
            return sent[seeker] == NONE ? seekers[seeker] : land.part(sent[seeker], TO);
        }

        int nextBits() {
            int kinds = kindsLeft();
            return land.reached(mayBits, day, kinds, 1) | land.stuck(mayBits, day, kinds) | wayBits;
        }

        void advance() {
            // The letter and what is known look back at this noon, so they go ahead of the moves.
            letterBits = nextBits();
            learnTicket();
            moveHim();
            for (int seeker = 0; seeker < SEEKERS; seeker++) {
                seekers[seeker] = placeBehind(seeker);
            }
            day++;
            forgetToday();
            caught = isWithSeeker();
            learnPlaces();
        }

        private void learnTicket() {
            if (ridden == NONE) {
                mayBits = land.stuck(mayBits, day, kindsLeft()) | wayBits;
                wayBits = 0;
                return;
            }
            int kinds = 1 << land.part(ridden, KIND);
            wayBits = land.reached(mayBits, day, kinds, 2);
            mayBits = land.reached(mayBits, day, kinds, 1);
        }

        private void moveHim() {
            onWay = false;
            if (ridden == NONE) {
                return;
            }
            int kind = land.part(ridden, KIND);
            if (within(kind, 0, KINDS - 1)) {
                tickets[kind]--;
            }
            onWay = land.part(ridden, NIGHTS) == 2;
            station = land.part(ridden, TO);
        }

        private void learnPlaces() {
            boolean shows = land.show > 0 && day % land.show == 0;
            if (caught || shows) {
                mayBits = onWay ? 0 : 1 << station;
                wayBits = onWay ? 1 << station : 0;
                return;
            }
            for (int seeker = 0; seeker < SEEKERS; seeker++) {
                if (seekers[seeker] != NONE) {
                    mayBits &= ~(1 << seekers[seeker]);
                }
            }
        }

        private boolean isWithSeeker() {
            boolean met = false;
            for (int seeker = 0; seeker < SEEKERS; seeker++) {
                met = met || seekers[seeker] == station;
            }
            return met && !onWay;
        }
    }

    /** SHUT and HIDES: the best for the next noon, by what is known now. */
    private static final class Foresight {
        private final Land land;
        private final Scene scene;
        int most;
        int placeZero;
        int placeOne;
        int hidingTrain;

        Foresight(Land land, Scene scene) {
            this.land = land;
            this.scene = scene;
        }

        void stand() {
            int next = scene.nextBits();
            int choicesZero = choices(scene.seekers[0]);
            int choicesOne = choices(scene.seekers[1]);
            most = NONE;
            for (int zero = 0; zero < PLACES; zero++) {
                for (int one = 0; one < PLACES; one++) {
                    int many = Integer.bitCount(next & (1 << zero | 1 << one));
                    if (hasBit(choicesZero, zero) && hasBit(choicesOne, one) && many > most) {
                        most = many;
                        placeZero = zero;
                        placeOne = one;
                    }
                }
            }
        }

        /** Places at which a seeker can be at the next noon. */
        private int choices(int station) {
            if (station == NONE) {
                return 1 << NOWHERE;
            }
            int stays = 1 << station;
            return stays | land.reached(stays, scene.day, ALL_KINDS, 1);
        }

        void hide() {
            int rideable = scene.rideable();
            most = NONE;
            hidingTrain = NONE;
            for (int train = 0; train < land.trains; train++) {
                int many = leftBy(1 << land.part(train, KIND));
                if (hasBit(rideable, train) && many > most) {
                    most = many;
                    hidingTrain = train;
                }
            }
        }

        private int leftBy(int kinds) {
            return Integer.bitCount(land.reached(scene.mayBits, scene.day, kinds, 1))
                    + Integer.bitCount(land.reached(scene.mayBits, scene.day, kinds, 2));
        }
    }

    /** CHASE and CLOSED: days to the catch, for all places at once, from the last day back to now. */
    private static final class Pursuit {
        private static final int NEVER = MOST_CHASE_DAYS + 1;
        private static final int PAIRS = PLACES * PLACES, ALL = MOST_STATIONS * PAIRS;

        private final Land land;
        private final Scene scene;
        // Each row is by his station, then the place of seeker 0, then that of seeker 1.
        private final int[] days = new int[ALL];
        private final int[] behindHim = new int[ALL];
        private final int[] behindZero = new int[ALL];
        private final int[] froms = new int[MOST_TRAINS];
        private final int[] tos = new int[MOST_TRAINS];
        private int running = 0;
        int closedTrain = NONE;
        int closedDays = NEVER;

        Pursuit(Land land, Scene scene) {
            this.land = land;
            this.scene = scene;
        }

        void close() {
            closedTrain = 0;
            closedDays = NEVER;
            for (int train = 0; train < land.trains; train++) {
                // Only fewer days than the least so far are of use, so no more are looked at.
                int fewest = fewestDays(train, closedDays - 1);
                if (fewest < closedDays) {
                    closedDays = fewest;
                    closedTrain = train;
                }
            }
        }

        /** Days to the catch while one train (or NONE) does not run; NEVER: not in as many as most. */
        int fewestDays(int shutTrain, int most) {
            Arrays.fill(days, NEVER);
            markCaught();
            for (int ahead = Math.min(most, MOST_CHASE_DAYS) - 1; ahead >= 0; ahead--) {
                gather(scene.day + ahead, shutTrain);
                foldHim();
                foldZero();
                foldOne();
                markCaught();
            }
            int place = (scene.station * PLACES + placeOf(scene.seekers[0])) * PLACES + placeOf(scene.seekers[1]);
            return within(place, 0, ALL - 1) ? days[place] : NEVER;
        }

        private static int placeOf(int station) {
            return within(station, 0, MOST_STATIONS - 1) ? station : NOWHERE;
        }

        private void markCaught() {
            for (int his = 0; his < MOST_STATIONS; his++) {
                int row = his * PAIRS;
                for (int place = 0; place < PLACES; place++) {
                    days[row + his * PLACES + place] = 0;
                    days[row + place * PLACES + his] = 0;
                }
            }
        }

        private void gather(int day, int shutTrain) {
            running = 0;
            for (int train = 0; train < land.trains; train++) {
                int from = land.part(train, FROM);
                int to = land.part(train, TO);
                boolean goes = train != shutTrain && land.part(train, NIGHTS) == 1 && land.runsOn(train, day);
                if (goes && isStation(from) && isStation(to) && running < MOST_TRAINS) {
                    froms[running] = from;
                    tos[running] = to;
                    running++;
                }
            }
        }

        private static boolean isStation(int station) {
            return within(station, 0, MOST_STATIONS - 1);
        }

        /** HE, who moves last, takes the longest; who can ride does not stay. */
        private void foldHim() {
            System.arraycopy(days, 0, behindHim, 0, ALL);
            for (int i = 0; i < running; i++) {
                for (int pair = 0; pair < PAIRS; pair++) {
                    behindHim[froms[i] * PAIRS + pair] = 0;
                }
            }
            for (int i = 0; i < running; i++) {
                int row = froms[i] * PAIRS;
                int rowThere = tos[i] * PAIRS;
                for (int pair = 0; pair < PAIRS; pair++) {
                    behindHim[row + pair] = Math.max(behindHim[row + pair], days[rowThere + pair]);
                }
            }
        }

        /** Seeker 0 takes the fewest, riding or staying. */
        private void foldZero() {
            System.arraycopy(behindHim, 0, behindZero, 0, ALL);
            for (int i = 0; i < running; i++) {
                for (int his = 0; his < MOST_STATIONS; his++) {
                    int row = his * PAIRS + froms[i] * PLACES;
                    int rowThere = his * PAIRS + tos[i] * PLACES;
                    for (int one = 0; one < PLACES; one++) {
                        behindZero[row + one] = Math.min(behindZero[row + one], behindHim[rowThere + one]);
                    }
                }
            }
        }

        /** Seeker 1 does so too; that took one day more. */
        private void foldOne() {
            System.arraycopy(behindZero, 0, days, 0, ALL);
            for (int i = 0; i < running; i++) {
                for (int row = 0; row < ALL; row += PLACES) {
                    days[row + froms[i]] = Math.min(days[row + froms[i]], behindZero[row + tos[i]]);
                }
            }
            for (int place = 0; place < ALL; place++) {
                days[place] = Math.min(days[place] + 1, NEVER);
            }
        }
    }

    /** THE LOG: told rides, judged, and their chances when trains are late. */
    private static final class Rides {
        private final Land land;
        private final int[] trains = new int[MOST_RIDES];
        int length = 0;
        private final int[] purse = new int[KINDS];
        private final long[] ways = new long[LAST_LATE_DAY + 1];
        private final long[] waysBehind = new long[LAST_LATE_DAY + 1];

        Rides(Land land) {
            this.land = land;
        }

        boolean append(int train) {
            if (!within(length, 0, MOST_RIDES - 1)) {
                return false;
            }
            trains[length] = train;
            length++;
            return true;
        }

        int firstImpossible() {
            System.arraycopy(land.tickets, 0, purse, 0, KINDS);
            int station = land.start;
            int day = 0;
            for (int i = 0; i < length && i < MOST_RIDES; i++) {
                int train = trains[i];
                if (!land.leaves(train, station, day) || !spend(land.part(train, KIND))) {
                    return i;
                }
                station = land.part(train, TO);
                day += land.part(train, NIGHTS);
            }
            return NONE;
        }

        private boolean spend(int kind) {
            if (!within(kind, 0, KINDS - 1) || purse[kind] < 1) {
                return false;
            }
            purse[kind]--;
            return true;
        }

        /** Of waysInAll() equal ways those in which all is ridden by a day. */
        long waysInTime(int tenths, int lastDay) {
            Arrays.fill(ways, 0);
            ways[0] = 1;
            int station = land.start;
            for (int i = 0; i < length && i < MOST_RIDES; i++) {
                if (land.part(trains[i], FROM) != station) {
                    return 0;
                }
                rideOn(trains[i], tenths);
                station = land.part(trains[i], TO);
            }
            long sum = 0;
            for (int day = 0; day <= lastDay && day <= LAST_LATE_DAY; day++) {
                sum += ways[day];
            }
            return sum;
        }

        long waysInAll() {
            long all = 1;
            for (int i = 0; i < length && i < MOST_RIDES; i++) {
                all *= 10;
            }
            return all;
        }

        private void rideOn(int train, int tenths) {
            Arrays.fill(waysBehind, 0);
            int day = LAST_LATE_DAY + 1;
            for (int came = LAST_LATE_DAY; came >= 0; came--) {
                if (land.runsOn(train, came)) {
                    day = came + land.part(train, NIGHTS);
                }
                arrive(day, ways[came] * (10 - tenths));
                arrive(day + 1, ways[came] * tenths);
            }
            System.arraycopy(waysBehind, 0, ways, 0, LAST_LATE_DAY + 1);
        }

        private void arrive(int day, long many) {
            if (within(day, 0, LAST_LATE_DAY)) {
                waysBehind[day] += many;
            }
        }
    }
}
