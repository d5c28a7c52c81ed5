/** Counts answers that are not as due, and writes texts. */
final class Check {
    private int wrong;
    private int asked;

    void due(String call, long got, long want) {
        asked++;
        if (got != want) {
            wrong++;
            System.out.println(call + " answered " + got + ", due is " + want);
        }
    }

    void due(String call, boolean got) {
        due(call, got ? 1 : 0, 1);
    }

    /** Says how it went, and ends with exit code 1 if something was wrong. */
    void end(String name) {
        System.out.println(name + ": " + asked + " answers, " + wrong + " not as due");
        if (wrong != 0 || asked == 0) {
            System.exit(1);
        }
    }

    /** Writes a text to THE TEXT, eight bytes at a time; the answer of the last write. */
    static int tell(LikestCase x, String text) {
        int answer = 0;
        for (int from = 0; from < text.length(); from += 8) {
            int n = Math.min(8, text.length() - from);
            long bytes = 0;
            for (int i = 0; i < n; i++) {
                bytes |= (long) (text.charAt(from + i) & 255) << 8 * i;
            }
            answer = x.write(bytes, n);
        }
        return answer;
    }

    /** A new object in which a text was done. */
    static LikestCase landOf(String text) {
        LikestCase x = new LikestCase();
        tell(x, text);
        if (x.land() < 1) {
            throw new IllegalStateException("the text has a fault: " + text);
        }
        return x;
    }
}
