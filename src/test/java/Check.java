import java.nio.charset.StandardCharsets;

/** What the tests share: counting wrong answers, and writing texts. */
final class Check {
    private final String name;
    private int wrong = 0;
    private int looked = 0;

    Check(String name) {
        this.name = name;
    }

    void due(String call, long got, long want) {
        looked++;
        if (got != want) {
            wrong++;
            System.out.println(name + ": " + call + " answered " + got + ", due is " + want);
        }
    }

    void holds(String what, boolean so) {
        looked++;
        if (!so) {
            wrong++;
            System.out.println(name + ": does not hold: " + what);
        }
    }

    boolean isWrong() {
        return wrong != 0;
    }

    void end() {
        System.out.println(name + ": " + looked + " looked at, " + wrong + " wrong");
        if (wrong != 0) {
            System.exit(1);
        }
    }

    /** Writes a text and answers what the last call answered. */
    static int write(NoonTrains x, String text) {
        byte[] bytes = text.getBytes(StandardCharsets.ISO_8859_1);
        int answer = 0;
        for (int at = 0; at < bytes.length; at += 8) {
            int n = Math.min(8, bytes.length - at);
            answer = x.write(packed(bytes, at, n), n);
        }
        return answer;
    }

    static long packed(byte[] bytes, int at, int n) {
        long packed = 0;
        for (int i = 0; i < n; i++) {
            packed |= (bytes[at + i] & 255L) << 8 * i;
        }
        return packed;
    }

    static NoonTrains landed(String... texts) {
        NoonTrains x = new NoonTrains();
        for (String text : texts) {
            write(x, text);
            if (x.land() < 1) {
                throw new IllegalStateException("has a fault: " + text);
            }
        }
        return x;
    }
}
