/** Objects to try calls on. */
final class Lands {
    /** Two POINTS: DEEDS 0, 1, 2 are FREE by CASE 0, DEED 3 ROPE by CASE 1. */
    static final String TWO = "land 2;case 00 0 10;case 11 3 20";
    /** Five POINTS: DEEDS of three POINTS and more are ROPE by CASE 1, others FREE by CASE 0. */
    static final String FIVE = "land 5;case 00000 0 1;case 11111 3 2";
    /** Six POINTS: DEEDS of four POINTS and more are ROPE by CASE 1, others FREE by CASE 0. */
    static final String SIX = "land 6;case 000000 0 1;case 111111 3 2";

    private Lands() {
    }

    /** Four POINTS, no CASES, kept so in image 0; a text that is not done yet. */
    static LikestCase withoutCases() {
        LikestCase x = Check.landOf("weight 1 7;cost 2 6");
        x.save(0);
        Check.tell(x, "case 0110 2 8");
        return x;
    }

    /** Three POINTS, four CASES, others in the images, a text that is not done yet. */
    static LikestCase rich() {
        LikestCase x = Check.landOf("land 3;weight 0 2;cost 1 3;case 000 0 5;case 111 3 4;case 100 2 5");
        x.save(0);
        x.pardon(1, true);
        x.bring(6, 1);
        x.save(1);
        x.pardon(2, true);
        Check.tell(x, "cost 0 9");
        return x;
    }

    /** So many POINTS, one CASE (DEED 0, GAOL), kept so in image 1; a text that is not done yet. */
    static LikestCase wide(int points) {
        LikestCase x = Check.landOf("land " + points + ";case " + "0".repeat(points) + " 2 1");
        x.save(1);
        Check.tell(x, "drop 0");
        return x;
    }

    /** Four POINTS, so many CASES, all of DEED 0, FINE, of YEARS 1, 2 .. */
    static LikestCase many(int cases) {
        LikestCase x = Check.landOf("case 0000 1 1");
        for (int i = 1; i < cases; i++) {
            x.bring(0, i + 1);
        }
        return x;
    }

    /** A line so many times, with ; between. */
    static String lines(String line, int times) {
        return (line + ";").repeat(times - 1) + line;
    }

    static LikestCase of(String text) {
        return Check.landOf(text);
    }

    /** A further text is done. */
    static LikestCase then(LikestCase x, String text) {
        Check.tell(x, text);
        if (x.land() < 1) {
            throw new IllegalStateException("the text has a fault: " + text);
        }
        return x;
    }
}
