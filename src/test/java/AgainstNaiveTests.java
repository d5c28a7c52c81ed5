import java.util.Random;

/** Runs of calls by fixed seeds, answered by LikestCase and by NaiveCourt: all answers must be alike. */
public final class AgainstNaiveTests {
    private static final int RUNS = 400, CALLS = 150, LANDS = 120;
    private static final String[] WORDS = {"land", "weight", "cost", "case", "case", "case", "case", "pardon", "drop"};
    private static final String NOISE = ";; 019azP\n";
    private static final Check CHECK = new Check();

    private final Random random;
    private final LikestCase x = new LikestCase();
    private final NaiveCourt y = new NaiveCourt();
    private final int seed;

    private AgainstNaiveTests(int seed) {
        this.seed = seed;
        random = new Random(seed);
    }

    public static void main(String[] args) {
        boolean alike = true;
        for (int seed = 1; seed <= RUNS && alike; seed++) {
            alike = new AgainstNaiveTests(seed).runOfCalls();
        }
        for (int seed = 1; seed <= LANDS && alike; seed++) {
            alike = new AgainstNaiveTests(1000000 + seed).wholeLand();
        }
        CHECK.end("AgainstNaiveTests");
    }

    private boolean runOfCalls() {
        for (int i = 0; i < CALLS; i++) {
            if (!step()) {
                return false;
            }
        }
        return true;
    }

    /** A land of few CASES, in which SUITS and TURNS that win are not rare, asked for its DEEDS. */
    private boolean wholeLand() {
        int points = 3 + random.nextInt(4);
        StringBuilder told = new StringBuilder("land " + points);
        int cases = 2 + random.nextInt(3);
        for (int i = 0; i < cases; i++) {
            told.append(";case ").append(rest("case", points));
        }
        for (int i = 0; i < 3; i++) {
            told.append(random.nextInt(3) != 0 ? "" : ";weight " + rest("weight", points));
        }
        if (!done(told.toString())) {
            return false;
        }
        // a large land takes the naive one long: only some of its DEEDS
        int step = points == 6 ? 7 : 1;
        for (int deed = random.nextInt(step); deed < 1 << points; deed += step) {
            for (int judgment = 0; judgment <= 3; judgment++) {
                if (!winsAlike(deed, judgment)) {
                    return false;
                }
            }
        }
        return true;
    }

    private boolean winsAlike(int deed, int judgment) {
        String told = deed + " " + judgment + " ";
        for (int i = -1; i < 2; i++) {
            if (!same("suits " + told + i, x.suits(deed, judgment, i), y.suits(deed, judgment, i))) {
                return false;
            }
        }
        return same("turns " + told, x.turns(deed, judgment), y.turns(deed, judgment));
    }

    private boolean same(String call, long got, long want) {
        CHECK.due("seed " + seed + ": " + call, got, want);
        return got == want;
    }

    /** A number of a range, now and then just outside of it, or far. */
    private int some(int low, int high) {
        if (random.nextInt(200) == 0) {
            return random.nextBoolean() ? Integer.MIN_VALUE : Integer.MAX_VALUE;
        }
        if (random.nextInt(25) == 0) {
            return random.nextBoolean() ? low - 1 - random.nextInt(3) : high + 1 + random.nextInt(3);
        }
        return low + random.nextInt(Math.max(1, high - low + 1));
    }

    private int deed() {
        return some(0, (1 << x.count(0)) - 1);
    }

    private int number() {
        return some(0, x.count(1) - 1);
    }

    private int judgment() {
        return some(0, 3);
    }

    private boolean step() {
        int points = x.count(0);
        boolean small = points <= 6;
        switch (random.nextInt(30)) {
            case 0:
            case 1:
            case 2:
                return tell();
            case 3:
                return random.nextInt(4) != 0 || same("erase", x.erase(), y.erase());
            case 4:
                return raw();
            case 5:
                int p = some(0, points - 1), pw = some(0, 1);
                return same("point " + p + " " + pw, x.point(p, pw), y.point(p, pw));
            case 6:
                int k = number(), kw = some(0, 4);
                return same("older " + k + " " + kw, x.older(k, kw), y.older(k, kw));
            case 7:
                int d = deed(), dw = some(0, 2);
                return same("judge " + d + " " + dw, x.judge(d, dw), y.judge(d, dw));
            case 8:
                int d8 = deed(), k8 = number();
                return same("like " + d8 + " " + k8, x.like(d8, k8), y.like(d8, k8));
            case 9:
            case 10:
                int d9 = deed(), y9 = random.nextInt(3) == 0 ? some(0, 9999) : some(0, 9);
                return same("bring " + d9 + " " + y9, x.bring(d9, y9), y.bring(d9, y9));
            case 11:
                int k11 = number();
                boolean is = random.nextInt(3) != 0;
                return same("pardon " + k11, x.pardon(k11, is), y.pardon(k11, is));
            case 12:
                int j12 = judgment(), k12 = random.nextBoolean() ? -1 : number();
                return same("deeds " + j12 + " " + k12, x.deeds(j12, k12), y.deeds(j12, k12));
            case 13:
            case 14:
                int d13 = deed(), j13 = judgment(), w13 = some(0, 1);
                return same("least " + d13 + " " + j13 + " " + w13, x.least(d13, j13, w13), y.least(d13, j13, w13));
            case 15:
            case 16:
                int d15 = deed(), j15 = judgment(), i15 = some(-1, 2);
                return same("suits " + d15 + " " + j15 + " " + i15, x.suits(d15, j15, i15), y.suits(d15, j15, i15));
            case 17:
            case 18:
                int d17 = deed(), j17 = judgment();
                return same("turns " + d17 + " " + j17, x.turns(d17, j17), y.turns(d17, j17));
            case 19:
                return same("dead", x.dead(), y.dead());
            case 20:
                int w20 = some(0, 1);
                return points > 6 && points < 9 && random.nextInt(4) != 0
                        || same("keep " + w20, x.keep(w20), y.keep(w20));
            case 21:
                int d21 = deed();
                return same("turning " + d21, x.turning(d21), y.turning(d21));
            case 22:
                int d22 = deed(), s22 = deed(), p22 = some(0, 10), j22 = judgment(), t22 = some(0, 1);
                return same("odds " + d22 + " " + s22 + " " + p22 + " " + j22 + " " + t22,
                        x.odds(d22, s22, p22, j22, t22), y.odds(d22, s22, p22, j22, t22));
            case 23:
                int w23 = some(0, 1);
                return same("forged", x.forged(), y.forged())
                        && same("cleaned " + w23, x.cleaned(w23), y.cleaned(w23));
            case 24:
                int i24 = some(-1, points - 1);
                return small && random.nextInt(3) != 0 || same("hang " + i24, x.hang(i24), y.hang(i24));
            case 25:
                return points > 8 && random.nextInt(8) != 0 || same("border", x.border(), y.border());
            case 26:
                int j26 = judgment(), w26 = some(0, 1);
                return same("parts " + j26 + " " + w26, x.parts(j26, w26), y.parts(j26, w26));
            case 27:
                int k27 = number();
                return same("frees " + k27, x.frees(k27), y.frees(k27));
            case 28:
                int i28 = some(0, 1), w28 = some(0, 3);
                return same("save " + i28, x.save(i28), y.save(i28))
                        && same("count " + w28, x.count(w28), y.count(w28));
            default:
                int i29 = some(0, 1);
                return same("back " + i29, x.back(i29), y.back(i29));
        }
    }

    /** A text of some LINES, most of them right, told and done. */
    private boolean tell() {
        StringBuilder told = new StringBuilder();
        int lines = 1 + random.nextInt(9);
        int points = x.count(0);
        for (int i = 0; i < lines; i++) {
            String word = WORDS[random.nextInt(WORDS.length)];
            if (word.equals("land") && random.nextInt(4) != 0) {
                continue;
            }
            told.append(told.length() == 0 ? "" : ";").append(blanks(0)).append(word).append(blanks(1));
            if (word.equals("land")) {
                points = 1 + random.nextInt(random.nextInt(3) == 0 ? 10 : 6);
            }
            told.append(rest(word, points)).append(blanks(0));
        }
        if (random.nextInt(5) == 0 && told.length() > 0) {
            told.setCharAt(random.nextInt(told.length()), NOISE.charAt(random.nextInt(NOISE.length())));
        }
        boolean alike = done(told.toString());
        return alike && (random.nextBoolean() || same("erase", x.erase(), y.erase()));
    }

    /** Writes a text to both and lets it be done. */
    private boolean done(String text) {
        for (int from = 0; from < text.length(); from += 8) {
            String some = text.substring(from, Math.min(text.length(), from + 8));
            long bytes = 0;
            for (int i = 0; i < some.length(); i++) {
                bytes |= (long) some.charAt(i) << 8 * i;
            }
            if (!same("write", x.write(bytes, some.length()), y.write(bytes, some.length()))) {
                return false;
            }
        }
        return same("fault of " + text, x.fault(), y.fault())
                && same("land of " + text, x.land(), y.land());
    }

    private String blanks(int least) {
        return " ".repeat(least + (random.nextInt(6) == 0 ? random.nextInt(3) : 0));
    }

    private String rest(String word, int points) {
        switch (word) {
            case "land":
                return "" + points;
            case "weight":
            case "cost":
                return random.nextInt(points) + blanks(1) + random.nextInt(random.nextInt(20) == 0 ? 11 : 10);
            case "case":
                StringBuilder figures = new StringBuilder();
                for (int p = 0; p < points; p++) {
                    figures.append(random.nextInt(2));
                }
                return figures + blanks(1) + random.nextInt(random.nextInt(20) == 0 ? 5 : 4) + blanks(1)
                        + (random.nextInt(3) == 0 ? random.nextInt(10000) : random.nextInt(10));
            default:
                return "" + random.nextInt(x.count(1) + 1);
        }
    }

    private boolean raw() {
        long bytes = random.nextLong();
        int n = some(1, 8);
        return random.nextInt(3) != 0 || same("write", x.write(bytes, n), y.write(bytes, n))
                && same("fault", x.fault(), y.fault()) && same("erase", x.erase(), y.erase());
    }
}
