/** All that can be seen of an object, so that two that should be the same can be compared. */
final class Sight {
    private static final int NONE = -1;

    private Sight() {
    }

    /** What can be asked; nothing changes by it. */
    static String now(NoonTrains x) {
        StringBuilder all = new StringBuilder();
        for (int what = 0; what < 8; what++) {
            add(all, x.count(what));
            add(all, x.he(what));
        }
        add(all, x.seeker(0), x.seeker(1), x.may(), x.way(), x.next(), x.letter());
        add(all, x.fault(), x.judge(), x.late(3, 20, 0), x.late(3, 20, 1));
        add(all, x.shut(NONE), x.shut(0), x.shut(1), x.hides(0), x.hides(1), x.chase());
        return all.toString();
    }

    static String trains(NoonTrains x) {
        StringBuilder all = new StringBuilder();
        for (int train = 0; train < x.count(1); train++) {
            for (int what = 0; what < 6; what++) {
                add(all, x.train(train, what));
            }
        }
        return all.toString();
    }

    /** What can be seen now and as it goes on: what is told for today, what is kept, what the texts told. Changes all. */
    static String ahead(NoonTrains x) {
        StringBuilder all = new StringBuilder(trains(x)).append('|').append(now(x));
        add(all, x.noon());
        all.append('|').append(now(x));
        int can = x.he(6);
        add(all, can == 0 ? NONE : x.ride(Integer.numberOfTrailingZeros(can)), x.noon());
        all.append('|').append(now(x));
        for (int k = 0; k < 2; k++) {
            add(all, x.back(k));
            all.append('|').append(now(x));
            add(all, x.noon());
            add(all, x.he(0), x.seeker(0), x.seeker(1), x.may());
        }
        add(all, x.erase(), Check.write(x, "show 3"), x.land());
        return all.append('|').append(now(x)).toString();
    }

    private static void add(StringBuilder all, long... answers) {
        for (long answer : answers) {
            all.append(answer).append(' ');
        }
    }
}
