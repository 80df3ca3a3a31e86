import java.math.BigInteger;
import java.util.ArrayList;
import java.util.Arrays;
import java.util.HashMap;
import java.util.List;
import java.util.Map;
import java.util.TreeSet;
import java.util.regex.Matcher;
import java.util.regex.Pattern;

/**
 * The document once more, in another way: it keeps every noon since DAY 0 and asks backwards where HE may be,
 * plays the chase by recursion, counts lateness over all patterns, reads texts by a regular expression.
 */
final class SlowModel {
    private static final int NONE = -1, UNKNOWN = -2, OUTSIDE = -3, NOT = -4, FULL = -5;
    private static final Pattern TOKEN = Pattern.compile("[a-z]+|[0-9]+|[^ ]", Pattern.DOTALL);

    private static final class Told {
        int n = 3;
        int start = 0;
        int show = 5;
        List<int[]> trains = new ArrayList<>();
        int[] tickets = {9, 9, 9};
        int[] seekers = {NONE, NONE};

        Told copy() {
            Told other = new Told();
            other.n = n;
            other.start = start;
            other.show = show;
            other.trains = new ArrayList<>(trains);
            other.tickets = tickets.clone();
            other.seekers = seekers.clone();
            return other;
        }
    }

    private static final class Noon {
        int at;
        boolean way;
        boolean caught;
        int[] tickets;
        int[] seekers;
        int ride = NONE;
        int[] sends = {NONE, NONE};

        Noon copy() {
            Noon other = new Noon();
            other.at = at;
            other.way = way;
            other.caught = caught;
            other.tickets = tickets.clone();
            other.seekers = seekers.clone();
            other.ride = ride;
            other.sends = sends.clone();
            return other;
        }
    }

    private static final class Fault extends Exception {
        private static final long serialVersionUID = 1L;
        final int place;

        Fault(int place) {
            this.place = place;
        }
    }

    private Told told = new Told();
    private String text = "";
    private List<Noon> noons = new ArrayList<>();
    private final List<List<Noon>> kept = new ArrayList<>(Arrays.asList(null, null));
    private final List<Integer> log = new ArrayList<>();
    private Map<Integer, Boolean> seen = new HashMap<>();

    SlowModel() {
        begin();
    }

    private void begin() {
        noons = new ArrayList<>();
        Noon first = new Noon();
        first.at = told.start;
        first.tickets = told.tickets.clone();
        first.seekers = told.seekers.clone();
        first.caught = first.seekers[0] == first.at || first.seekers[1] == first.at;
        noons.add(first);
        log.clear();
        kept.set(0, null);
        kept.set(1, null);
    }

    private int day() {
        return noons.size() - 1;
    }

    private Noon now() {
        return noons.get(day());
    }

    private boolean noTrain(int train) {
        return train < 0 || train >= told.trains.size();
    }

    // ---- texts

    int write(long bytes, int n) {
        if (n < 1 || n > 8) {
            return OUTSIDE;
        }
        if (text.length() + n > 200) {
            return FULL;
        }
        for (int i = 0; i < n; i++) {
            text += (char) ((bytes >>> 8 * i) & 255);
        }
        return text.length();
    }

    int erase() {
        int had = text.length();
        text = "";
        return had;
    }

    int fault() {
        try {
            parse(told.copy());
            return NONE;
        } catch (Fault fault) {
            return fault.place;
        }
    }

    int land() {
        Told draft = told.copy();
        int lines;
        try {
            lines = parse(draft);
        } catch (Fault fault) {
            return NOT;
        }
        told = draft;
        text = "";
        begin();
        return lines;
    }

    private List<String> tokens;
    private List<Integer> places;
    private int token;

    private int parse(Told draft) throws Fault {
        tokens = new ArrayList<>();
        places = new ArrayList<>();
        token = 0;
        Matcher matcher = TOKEN.matcher(text);
        while (matcher.find()) {
            tokens.add(matcher.group());
            places.add(matcher.start());
        }
        tokens.add("");
        places.add(text.length());
        int lines = 0;
        while (true) {
            line(draft);
            lines++;
            if (tokens.get(token).isEmpty()) {
                return lines;
            }
            if (!tokens.get(token).equals(";") || lines == 10) {
                throw new Fault(places.get(token));
            }
            token++;
        }
    }

    private void line(Told draft) throws Fault {
        String word = tokens.get(token);
        if (word.equals("train") && draft.trains.size() == 12) {
            throw new Fault(places.get(token));
        }
        if (!Arrays.asList("land", "train", "start", "tickets", "show", "seeker").contains(word)) {
            throw new Fault(places.get(token));
        }
        token++;
        if (word.equals("land")) {
            draft.n = number(2, 7, NONE);
            draft.trains.clear();
            draft.start = 0;
            draft.seekers = new int[] {NONE, NONE};
        } else if (word.equals("train")) {
            int a = number(0, draft.n - 1, NONE);
            int b = number(0, draft.n - 1, a);
            int e = number(1, 4, NONE);
            int r = number(0, e - 1, NONE);
            int k = number(1, 2, NONE);
            draft.trains.add(new int[] {a, b, e, r, k, number(0, 2, NONE)});
        } else if (word.equals("start")) {
            draft.start = number(0, draft.n - 1, NONE);
        } else if (word.equals("tickets")) {
            draft.tickets = new int[] {number(0, 9, NONE), number(0, 9, NONE), number(0, 9, NONE)};
        } else if (word.equals("show")) {
            draft.show = number(1, 9, NONE);
        } else {
            int i = number(0, 1, NONE);
            draft.seekers[i] = number(0, draft.n - 1, NONE);
        }
    }

    private int number(int least, int most, int butNot) throws Fault {
        String digits = tokens.get(token);
        if (!digits.matches("[0-9]{1,2}")) {
            throw new Fault(places.get(token));
        }
        int value = Integer.parseInt(digits);
        if (value < least || value > most || value == butNot) {
            throw new Fault(places.get(token));
        }
        token++;
        return value;
    }

    // ---- the timetable

    int train(int train, int what) {
        if (noTrain(train)) {
            return UNKNOWN;
        }
        return what < 0 || what > 5 ? OUTSIDE : told.trains.get(train)[what];
    }

    int runs(int station, int day) {
        if (station < 0 || station >= told.n) {
            return UNKNOWN;
        }
        return day < 0 ? OUTSIDE : bits(trainsFrom(station, day));
    }

    private static int bits(List<Integer> members) {
        int bits = 0;
        for (int member : members) {
            bits |= 1 << member;
        }
        return bits;
    }

    private List<Integer> trainsFrom(int station, int day) {
        List<Integer> those = new ArrayList<>();
        for (int i = 0; i < told.trains.size(); i++) {
            int[] t = told.trains.get(i);
            if (t[0] == station && day % t[2] == t[3]) {
                those.add(i);
            }
        }
        return those;
    }

    private List<Integer> ridable(int station, int day, int[] tickets) {
        List<Integer> those = trainsFrom(station, day);
        those.removeIf(i -> tickets[told.trains.get(i)[5]] == 0);
        return those;
    }

    private List<Integer> his() {
        return now().way || now().caught ? new ArrayList<>() : ridable(now().at, day(), now().tickets);
    }

    int as(int train, int as) {
        if (noTrain(train)) {
            return UNKNOWN;
        }
        if (as < 0 || as > 3) {
            return OUTSIDE;
        }
        int[] t = told.trains.get(train);
        boolean such = as == 0 || as == 1 && t[4] == 1 || as == 2 && t[4] == 2 || as == 3 && now().tickets[t[5]] == 0;
        return such ? t[5] : NOT;
    }

    // ---- noons

    int ride(int train) {
        if (noTrain(train)) {
            return UNKNOWN;
        }
        if (!his().contains(train)) {
            return NOT;
        }
        now().ride = train;
        return told.trains.get(train)[1];
    }

    int send(int seeker, int train) {
        if (seeker < 0 || seeker > 1 || train != NONE && noTrain(train)) {
            return UNKNOWN;
        }
        int at = now().seekers[seeker];
        if (now().caught || at == NONE) {
            return NOT;
        }
        if (train != NONE && (!trainsFrom(at, day()).contains(train) || told.trains.get(train)[4] == 2)) {
            return NOT;
        }
        now().sends[seeker] = train;
        return train == NONE ? at : told.trains.get(train)[1];
    }

    int noon() {
        if (now().caught || !his().isEmpty() && now().ride == NONE) {
            return NOT;
        }
        Noon old = now();
        Noon then = old.copy();
        then.ride = NONE;
        then.sends = new int[] {NONE, NONE};
        then.way = false;
        if (old.ride != NONE) {
            int[] t = told.trains.get(old.ride);
            then.at = t[1];
            then.way = t[4] == 2;
            then.tickets[t[5]]--;
        }
        for (int i = 0; i < 2; i++) {
            if (old.sends[i] != NONE) {
                then.seekers[i] = told.trains.get(old.sends[i])[1];
            }
            then.caught |= !then.way && then.seekers[i] == then.at;
        }
        noons.add(then);
        return then.caught ? 1 : 0;
    }

    int he(int what) {
        switch (what) {
            case 0: return now().at;
            case 1: return now().way ? 1 : 0;
            case 2: return now().caught ? 1 : 0;
            case 3: case 4: case 5: return now().tickets[what - 3];
            case 6: return bits(his());
            default: return OUTSIDE;
        }
    }

    int seeker(int seeker) {
        return seeker < 0 || seeker > 1 ? UNKNOWN : now().seekers[seeker];
    }

    // ---- what is known, asked backwards

    private boolean possible(int t, int s, boolean way) {
        int key = (t * 8 + s) * 2 + (way ? 1 : 0);
        Boolean answer = seen.get(key);
        if (answer == null) {
            answer = ask(t, s, way);
            seen.put(key, answer);
        }
        return answer;
    }

    private boolean ask(int t, int s, boolean way) {
        Noon noon = noons.get(t);
        if (t == 0) {
            return !way && s == told.start;
        }
        if (noon.caught || t % told.show == 0) {
            return s == noon.at && way == noon.way;
        }
        if (!way && (noon.seekers[0] == s || noon.seekers[1] == s)) {
            return false;
        }
        Noon ahead = noons.get(t - 1);
        if (ahead.ride != NONE) {
            return comesBy(t - 1, s, told.trains.get(ahead.ride)[5], way ? 2 : 1);
        }
        return !way && rests(t - 1, s);
    }

    private boolean comesBy(int t, int s, int kind, int nights) {
        for (int[] train : told.trains) {
            if (train[1] == s && train[4] == nights && train[5] == kind && t % train[2] == train[3]
                    && possible(t, train[0], false)) {
                return true;
            }
        }
        return false;
    }

    private boolean rests(int t, int s) {
        return possible(t, s, true) || possible(t, s, false) && ridable(s, t, noons.get(t).tickets).isEmpty();
    }

    private int possibles(boolean way) {
        seen = new HashMap<>();
        int bits = 0;
        for (int s = 0; s < told.n; s++) {
            bits |= possible(day(), s, way) ? 1 << s : 0;
        }
        return bits;
    }

    private int nextOf(int t) {
        seen = new HashMap<>();
        int bits = 0;
        for (int s = 0; s < told.n; s++) {
            boolean so = rests(t, s);
            for (int kind = 0; kind < 3; kind++) {
                so |= noons.get(t).tickets[kind] > 0 && comesBy(t, s, kind, 1);
            }
            bits |= so ? 1 << s : 0;
        }
        return bits;
    }

    int may() {
        return possibles(false);
    }

    int way() {
        return possibles(true);
    }

    int next() {
        return nextOf(day());
    }

    int letter() {
        return day() == 0 ? 1 << told.start : nextOf(day() - 1);
    }

    // ---- foretold

    private List<Integer> goes(int at, int day, int closed) {
        TreeSet<Integer> places = new TreeSet<>();
        for (int i : at == NONE ? new ArrayList<Integer>() : trainsFrom(at, day)) {
            if (told.trains.get(i)[4] == 1 && i != closed) {
                places.add(told.trains.get(i)[1]);
            }
        }
        return new ArrayList<>(places);
    }

    private List<Integer> seeks(int at, int day, int closed) {
        TreeSet<Integer> places = new TreeSet<>(goes(at, day, closed));
        places.add(at);
        return new ArrayList<>(places);
    }

    int shut(int seeker) {
        if (seeker < NONE || seeker > 1) {
            return UNKNOWN;
        }
        if (now().caught) {
            return NOT;
        }
        int next = next();
        int[] best = {NONE, NONE, NONE};
        for (int a : seeks(now().seekers[0], day(), NONE)) {
            for (int b : seeks(now().seekers[1], day(), NONE)) {
                TreeSet<Integer> shut = new TreeSet<>(List.of(a));
                shut.add(b);
                shut.removeIf(s -> s == NONE || (next >> s & 1) == 0);
                if (shut.size() > best[0]) {
                    best = new int[] {shut.size(), a, b};
                }
            }
        }
        return best[seeker + 1];
    }

    int hides(int what) {
        if (what < 0 || what > 1) {
            return OUTSIDE;
        }
        if (now().caught || now().way) {
            return NOT;
        }
        int[] best = {NONE, NONE};
        for (int train : his()) {
            seen = new HashMap<>();
            int many = 0;
            for (int s = 0; s < told.n; s++) {
                int kind = told.trains.get(train)[5];
                many += comesBy(day(), s, kind, 1) ? 1 : 0;
                many += comesBy(day(), s, kind, 2) ? 1 : 0;
            }
            if (many > best[1]) {
                best = new int[] {train, many};
            }
        }
        return best[what];
    }

    private final Map<Long, Boolean> played = new HashMap<>();

    private boolean caughtIn(int left, int day, int h, int a, int b, int closed) {
        if (h == a || h == b) {
            return true;
        }
        if (left == 0) {
            return false;
        }
        long key = ((((left * 2000L + day) * 8 + h) * 9 + a + 1) * 9 + b + 1);
        Boolean answer = played.get(key);
        if (answer == null) {
            answer = false;
            for (int a2 : seeks(a, day, closed)) {
                for (int b2 : seeks(b, day, closed)) {
                    answer = answer || allCaught(left, day, h, a2, b2, closed);
                }
            }
            played.put(key, answer);
        }
        return answer;
    }

    private boolean allCaught(int left, int day, int h, int a2, int b2, int closed) {
        List<Integer> his = goes(h, day, closed);
        if (his.isEmpty()) {
            his.add(h);
        }
        for (int h2 : his) {
            if (!caughtIn(left - 1, day + 1, h2, a2, b2, closed)) {
                return false;
            }
        }
        return true;
    }

    private int days(int closed) {
        played.clear();
        for (int k = 0; k <= 12; k++) {
            if (caughtIn(k, day(), now().at, now().seekers[0], now().seekers[1], closed)) {
                return k;
            }
        }
        return NONE;
    }

    private boolean noChase() {
        return now().way || now().seekers[0] == NONE && now().seekers[1] == NONE;
    }

    int chase() {
        return noChase() ? NOT : days(NONE);
    }

    int closed(int what) {
        if (what < 0 || what > 1) {
            return OUTSIDE;
        }
        if (noChase()) {
            return NOT;
        }
        int which = NONE;
        int least = NONE;
        for (int i = 0; i < told.trains.size(); i++) {
            int days = days(i);
            if (which == NONE || days != NONE && (least == NONE || days < least)) {
                which = i;
                least = days;
            }
        }
        return what == 0 ? which : least;
    }

    // ---- the log

    int log(int train) {
        if (noTrain(train)) {
            return UNKNOWN;
        }
        if (log.size() == 12) {
            return FULL;
        }
        log.add(train);
        return log.size();
    }

    int burn() {
        int had = log.size();
        log.clear();
        return had;
    }

    int judge() {
        int[] purse = told.tickets.clone();
        int at = told.start;
        int day = 0;
        for (int i = 0; i < log.size(); i++) {
            int[] t = told.trains.get(log.get(i));
            if (!ridable(at, day, purse).contains(log.get(i))) {
                return i;
            }
            purse[t[5]]--;
            at = t[1];
            day += t[4];
        }
        return NONE;
    }

    long late(int p, int d, int part) {
        if (p < 0 || p > 10 || d < 0 || d > 40 || part < 0 || part > 1) {
            return OUTSIDE;
        }
        BigInteger above = BigInteger.ZERO;
        for (int pattern = 0; pattern < 1 << log.size(); pattern++) {
            if (comes(pattern) <= d) {
                int lates = Integer.bitCount(pattern);
                above = above.add(BigInteger.valueOf(p).pow(lates)
                        .multiply(BigInteger.valueOf(10 - p).pow(log.size() - lates)));
            }
        }
        BigInteger below = BigInteger.TEN.pow(log.size());
        return (part == 0 ? above : below).divide(above.gcd(below)).longValueExact();
    }

    private int comes(int pattern) {
        int day = 0;
        int at = told.start;
        for (int i = 0; i < log.size(); i++) {
            int[] t = told.trains.get(log.get(i));
            if (t[0] != at) {
                return Integer.MAX_VALUE;
            }
            while (day % t[2] != t[3]) {
                day++;
            }
            day += t[4] + (pattern >> i & 1);
            at = t[1];
        }
        return day;
    }

    int keep(int k) {
        if (k < 0 || k > 1) {
            return UNKNOWN;
        }
        kept.set(k, copied(noons));
        return day();
    }

    int back(int k) {
        if (k < 0 || k > 1) {
            return UNKNOWN;
        }
        if (kept.get(k) == null) {
            return NOT;
        }
        noons = copied(kept.get(k));
        return day();
    }

    private static List<Noon> copied(List<Noon> noons) {
        List<Noon> copy = new ArrayList<>();
        for (Noon noon : noons) {
            copy.add(noon.copy());
        }
        return copy;
    }

    int count(int what) {
        switch (what) {
            case 0: return told.n;
            case 1: return told.trains.size();
            case 2: return told.start;
            case 3: return told.show;
            case 4: return day();
            case 5: return text.length();
            case 6: return log.size();
            case 7: return (now().seekers[0] == NONE ? 0 : 1) + (now().seekers[1] == NONE ? 0 : 2);
            default: return OUTSIDE;
        }
    }
}
