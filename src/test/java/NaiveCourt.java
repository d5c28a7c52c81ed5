import java.util.ArrayList;
import java.util.Arrays;
import java.util.HashSet;
import java.util.List;
import java.util.Set;
import java.util.TreeSet;
import java.util.regex.Matcher;
import java.util.regex.Pattern;

/** The document again, as plainly as it can be said, for comparing: slow, and with the whole library. */
final class NaiveCourt {
    static final int NONE = -1, UNKNOWN = -2, OUTSIDE = -3, NOT = -4, FULL = -5;

    record Case(int deed, int first, int year, boolean pardoned) {
        int judgment() {
            return pardoned ? 0 : first;
        }

        Case with(boolean is) {
            return new Case(deed, first, year, is);
        }

        Case asFirst() {
            return with(false);
        }
    }

    private int n = 4;
    private int[] weight = {1, 1, 1, 1};
    private int[] cost = {1, 1, 1, 1};
    private List<Case> cases = new ArrayList<>();
    private String text = "";
    private final List<List<Case>> images = new ArrayList<>(Arrays.asList(null, null));

    // ---- what is told

    int write(long bytes, int many) {
        if (many < 1 || many > 8) {
            return OUTSIDE;
        }
        if (text.length() + many > 200) {
            return FULL;
        }
        for (int i = 0; i < many; i++) {
            text += (char) (bytes >> 8 * i & 255);
        }
        return text.length();
    }

    int erase() {
        int had = text.length();
        text = "";
        return had;
    }

    int fault() {
        NaiveCourt trial = new NaiveCourt();
        trial.n = n;
        trial.weight = weight.clone();
        trial.cost = cost.clone();
        trial.cases = new ArrayList<>(cases);
        return trial.doAll(text);
    }

    int land() {
        if (fault() != NONE) {
            return NOT;
        }
        doAll(text);
        int lines = text.split(";", -1).length;
        text = "";
        images.set(0, null);
        images.set(1, null);
        return lines;
    }

    private static final Pattern TOKEN = Pattern.compile("[a-z]+|[0-9]+|[^ ]", Pattern.DOTALL);

    /** Does LINES up to the FAULT, and answers its place or NONE. */
    private int doAll(String told) {
        List<String> tokens = new ArrayList<>();
        List<Integer> places = new ArrayList<>();
        Matcher m = TOKEN.matcher(told);
        while (m.find()) {
            tokens.add(m.group());
            places.add(m.start());
        }
        tokens.add("");
        places.add(told.length());
        int at = 0;
        for (int line = 1;; line++) {
            String word = tokens.get(at);
            int[] bounds = boundsOf(word);
            if (bounds == null || word.equals("case") && cases.size() == 12) {
                return places.get(at);
            }
            at++;
            int[] got = new int[bounds.length / 2];
            for (int i = 0; i < got.length; i++, at++) {
                got[i] = word.equals("case") && i == 0 ? figures(tokens.get(at))
                        : number(tokens.get(at), bounds[2 * i], bounds[2 * i + 1]);
                if (got[i] == NONE) {
                    return places.get(at);
                }
            }
            doLine(word, got);
            if (tokens.get(at).isEmpty()) {
                return NONE;
            }
            if (!tokens.get(at).equals(";") || line == 8) {
                return places.get(at);
            }
            at++;
        }
    }

    private int[] boundsOf(String word) {
        switch (word) {
            case "land":
                return new int[] {1, 10};
            case "weight":
            case "cost":
                return new int[] {0, n - 1, 0, 9};
            case "case":
                return new int[] {0, 0, 0, 3, 0, 9999};
            case "pardon":
            case "drop":
                return new int[] {0, cases.size() - 1};
            default:
                return null;
        }
    }

    private int figures(String token) {
        if (!token.matches("[01]{" + n + "}")) {
            return NONE;
        }
        return Integer.parseInt(new StringBuilder(token).reverse().toString(), 2);
    }

    private static int number(String token, int low, int high) {
        if (!token.matches("[0-9]{1,4}")) {
            return NONE;
        }
        int value = Integer.parseInt(token);
        return value < low || value > high ? NONE : value;
    }

    private void doLine(String word, int[] got) {
        switch (word) {
            case "land":
                n = got[0];
                weight = new int[n];
                Arrays.fill(weight, 1);
                cost = weight.clone();
                cases.clear();
                break;
            case "weight":
                weight[got[0]] = got[1];
                break;
            case "cost":
                cost[got[0]] = got[1];
                break;
            case "case":
                cases.add(new Case(got[0], got[1], got[2], false));
                break;
            case "pardon":
                cases.set(got[0], cases.get(got[0]).with(true));
                break;
            default:
                cases.remove(got[0]);
                break;
        }
    }

    int point(int point, int what) {
        if (point < 0 || point >= n) {
            return UNKNOWN;
        }
        return what == 0 ? weight[point] : what == 1 ? cost[point] : OUTSIDE;
    }

    int older(int number, int what) {
        if (!isCase(number)) {
            return UNKNOWN;
        }
        Case told = cases.get(number);
        switch (what) {
            case 0:
                return told.deed;
            case 1:
                return told.judgment();
            case 2:
                return told.year;
            case 3:
                return told.pardoned ? 1 : 0;
            case 4:
                int elder = 0;
                for (int i = 0; i < cases.size(); i++) {
                    elder += isElder(cases, i, number) ? 1 : 0;
                }
                return elder;
            default:
                return OUTSIDE;
        }
    }

    // ---- judged

    private boolean isCase(int number) {
        return number >= 0 && number < cases.size();
    }

    private boolean isDeed(int deed) {
        return deed >= 0 && deed < 1 << n;
    }

    private static boolean isJudgment(int judgment) {
        return judgment >= 0 && judgment <= 3;
    }

    private static boolean isElder(List<Case> all, int one, int other) {
        int years = Integer.compare(all.get(one).year, all.get(other).year);
        return years < 0 || years == 0 && one < other;
    }

    private static int likeness(int a, int b, int[] weights) {
        int sum = 0;
        for (int p = 0; p < weights.length; p++) {
            sum += (a >> p & 1) == (b >> p & 1) ? weights[p] : 0;
        }
        return sum;
    }

    private static int by(int deed, List<Case> all, int[] weights) {
        int best = NONE;
        for (int i = 0; i < all.size(); i++) {
            if (best == NONE) {
                best = i;
                continue;
            }
            int more = likeness(deed, all.get(i).deed, weights)
                    - likeness(deed, all.get(best).deed, weights);
            if (more > 0 || more == 0 && isElder(all, i, best)) {
                best = i;
            }
        }
        return best;
    }

    private int judgedBy(int deed, List<Case> all) {
        int by = by(deed, all, weight);
        return by == NONE ? NONE : all.get(by).judgment();
    }

    private int judged(int deed) {
        return judgedBy(deed, cases);
    }

    int judge(int deed, int what) {
        if (!isDeed(deed) || what < 0 || what > 2) {
            return OUTSIDE;
        }
        int by = by(deed, cases, weight);
        if (by == NONE) {
            return NONE;
        }
        return what == 0 ? cases.get(by).judgment() : what == 1 ? by
                : likeness(deed, cases.get(by).deed, weight);
    }

    int like(int deed, int number) {
        return !isCase(number) ? UNKNOWN : !isDeed(deed) ? OUTSIDE
                : likeness(deed, cases.get(number).deed, weight);
    }

    int bring(int deed, int year) {
        if (!isDeed(deed) || year < 0 || year > 9999) {
            return OUTSIDE;
        }
        if (cases.isEmpty()) {
            return NOT;
        }
        if (cases.size() == 12) {
            return FULL;
        }
        cases = brought(cases, deed, year);
        return cases.get(cases.size() - 1).first;
    }

    private List<Case> brought(List<Case> all, int deed, int year) {
        List<Case> more = new ArrayList<>(all);
        more.add(new Case(deed, judgedBy(deed, all), year, false));
        return more;
    }

    int pardon(int number, boolean is) {
        if (!isCase(number)) {
            return UNKNOWN;
        }
        cases.set(number, cases.get(number).with(is));
        return cases.get(number).judgment();
    }

    int deeds(int judgment, int number) {
        if (number != NONE && !isCase(number)) {
            return UNKNOWN;
        }
        if (!isJudgment(judgment)) {
            return OUTSIDE;
        }
        int found = 0;
        for (int deed = 0; deed < 1 << n; deed++) {
            if (judged(deed) == judgment && (number == NONE || by(deed, cases, weight) == number)) {
                found++;
            }
        }
        return found;
    }

    // ---- what one can do

    private int change(int a, int b) {
        return Arrays.stream(cost).sum() - likeness(a, b, cost);
    }

    int least(int deed, int judgment, int what) {
        if (!isDeed(deed) || !isJudgment(judgment) || what < 0 || what > 1) {
            return OUTSIDE;
        }
        int best = NONE;
        for (int other = (1 << n) - 1; other >= 0; other--) {
            if (judged(other) == judgment && (best == NONE || change(deed, other) <= change(deed, best))) {
                best = other;
            }
        }
        return best == NONE ? NONE : what == 1 ? best : change(deed, best);
    }

    private int[] row(int deed, int judgment) {
        if (judged(deed) == judgment) {
            return new int[0];
        }
        for (int a = 0; a < 1 << n; a++) {
            if (judgedBy(deed, brought(cases, a, 9999)) == judgment) {
                return new int[] {a};
            }
        }
        for (int a = 0; a < 1 << n; a++) {
            List<Case> one = brought(cases, a, 9999);
            for (int b = 0; b < 1 << n; b++) {
                if (judgedBy(deed, brought(one, b, 9999)) == judgment) {
                    return new int[] {a, b};
                }
            }
        }
        return null;
    }

    int suits(int deed, int judgment, int i) {
        if (!isDeed(deed) || !isJudgment(judgment) || i < -1) {
            return OUTSIDE;
        }
        if (n > 6 || cases.isEmpty()) {
            return NOT;
        }
        int[] row = row(deed, judgment);
        if (row == null) {
            return NONE;
        }
        return i == -1 ? row.length : i < row.length ? row[i] : NONE;
    }

    int turns(int deed, int judgment) {
        if (!isDeed(deed) || !isJudgment(judgment)) {
            return OUTSIDE;
        }
        if (n > 6 || cases.isEmpty()) {
            return NOT;
        }
        for (int a = 0; a < 1 << n; a++) {
            List<Case> one = brought(cases, a, 9999);
            boolean won = judgedBy(deed, one) == judgment;
            for (int b = 0; won && b < 1 << n; b++) {
                won = judgedBy(deed, brought(one, b, 9999)) == judgment;
            }
            if (won) {
                return a;
            }
        }
        return NONE;
    }

    // ---- what is kept, what turns

    int dead() {
        int dead = 0;
        for (int number = 0; number < cases.size(); number++) {
            boolean judges = false;
            for (int deed = 0; deed < 1 << n; deed++) {
                judges |= by(deed, cases, weight) == number;
            }
            dead |= judges ? 0 : 1 << number;
        }
        return dead;
    }

    private List<Case> only(int set) {
        List<Case> some = new ArrayList<>();
        for (int i = 0; i < cases.size(); i++) {
            if ((set >> i & 1) == 1) {
                some.add(cases.get(i));
            }
        }
        return some;
    }

    int keep(int what) {
        if (what < 0 || what > 1) {
            return OUTSIDE;
        }
        if (n > 8 || cases.size() > 10) {
            return NOT;
        }
        int best = (1 << cases.size()) - 1;
        for (int set = best; set >= 0; set--) {
            if (Integer.bitCount(set) <= Integer.bitCount(best) && judgesAlike(only(set))) {
                best = set;
            }
        }
        return what == 0 ? Integer.bitCount(best) : best;
    }

    private boolean judgesAlike(List<Case> some) {
        for (int deed = 0; deed < 1 << n; deed++) {
            if (judgedBy(deed, some) != judged(deed)) {
                return false;
            }
        }
        return true;
    }

    int turning(int deed) {
        if (!isDeed(deed)) {
            return OUTSIDE;
        }
        if (cases.isEmpty()) {
            return NOT;
        }
        int turning = 0;
        for (int p = 0; p < n; p++) {
            int other = (deed >> p & 1) == 1 ? deed - (1 << p) : deed + (1 << p);
            turning += judged(other) != judged(deed) ? 1 << p : 0;
        }
        return turning;
    }

    long odds(int deed, int set, int p, int judgment, int part) {
        if (!isDeed(deed) || !isDeed(set) || Integer.bitCount(set) > 8 || p < 0 || p > 10
                || !isJudgment(judgment) || part < 0 || part > 1) {
            return OUTSIDE;
        }
        if (cases.isEmpty()) {
            return NOT;
        }
        long above = 0;
        long below = 1;
        for (int i = 0; i < Integer.bitCount(set); i++) {
            below *= 10;
        }
        for (int other = 0; other < 1 << n; other++) {
            long ways = judged(other) == judgment ? 1 : 0;
            for (int q = 0; q < n; q++) {
                boolean so = (other >> q & 1) == 1;
                boolean told = (deed >> q & 1) == 1;
                ways *= (set >> q & 1) == 1 ? so ? p : 10 - p : so == told ? 1 : 0;
            }
            above += ways;
        }
        long common = java.math.BigInteger.valueOf(above)
                .gcd(java.math.BigInteger.valueOf(below)).longValue();
        return (part == 0 ? above : below) / common;
    }

    // ---- forged ones, weights

    private static boolean follows(List<Case> all, int number, int[] weights) {
        List<Case> elder = new ArrayList<>();
        for (int i = 0; i < all.size(); i++) {
            if (isElder(all, i, number)) {
                elder.add(all.get(i).asFirst());
            }
        }
        int by = by(all.get(number).deed, elder, weights);
        return by == NONE || elder.get(by).first == all.get(number).first;
    }

    private static int notFollowing(List<Case> all, int[] weights) {
        int forged = 0;
        for (int i = 0; i < all.size(); i++) {
            forged |= follows(all, i, weights) ? 0 : 1 << i;
        }
        return forged;
    }

    int forged() {
        return notFollowing(cases, weight);
    }

    int cleaned(int what) {
        if (what < 0 || what > 1) {
            return OUTSIDE;
        }
        if (cases.size() > 10) {
            return NOT;
        }
        int all = (1 << cases.size()) - 1;
        int best = all;
        for (int out = all; out >= 0; out--) {
            if (Integer.bitCount(out) <= Integer.bitCount(best)
                    && notFollowing(only(all & ~out), weight) == 0) {
                best = out;
            }
        }
        return what == 0 ? Integer.bitCount(best) : best;
    }

    int hang(int i) {
        if (i != NONE && (i < 0 || i >= n)) {
            return UNKNOWN;
        }
        if (n > 6) {
            return NOT;
        }
        TreeSet<String> found = new TreeSet<>();
        hangAll(new int[n], 0, found);
        if (i == NONE) {
            return found.size();
        }
        return found.isEmpty() ? NONE : found.first().charAt(i) - '0';
    }

    private void hangAll(int[] weights, int from, Set<String> found) {
        if (from == n) {
            if (notFollowing(cases, weights) == 0) {
                StringBuilder told = new StringBuilder();
                Arrays.stream(weights).forEach(told::append);
                found.add(told.toString());
            }
            return;
        }
        for (int w = 2; w >= 0; w--) {
            weights[from] = w;
            hangAll(weights, from + 1, found);
        }
    }

    // ---- the land of all deeds

    int border() {
        if (cases.isEmpty()) {
            return NOT;
        }
        int found = 0;
        for (int a = 0; a < 1 << n; a++) {
            for (int b = a + 1; b < 1 << n; b++) {
                found += Integer.bitCount(a ^ b) == 1 && judged(a) != judged(b) ? 1 : 0;
            }
        }
        return found;
    }

    int parts(int judgment, int what) {
        if (!isJudgment(judgment) || what < 0 || what > 1) {
            return OUTSIDE;
        }
        Set<Integer> left = new HashSet<>();
        for (int deed = 0; deed < 1 << n; deed++) {
            if (judged(deed) == judgment) {
                left.add(deed);
            }
        }
        int parts = 0;
        int greatest = 0;
        while (!left.isEmpty()) {
            parts++;
            greatest = Math.max(greatest, take(left, left.iterator().next()));
        }
        return what == 0 ? parts : greatest;
    }

    private int take(Set<Integer> left, int deed) {
        if (!left.remove(deed)) {
            return 0;
        }
        int taken = 1;
        for (int p = 0; p < n; p++) {
            taken += take(left, deed ^ 1 << p);
        }
        return taken;
    }

    int frees(int number) {
        if (!isCase(number)) {
            return UNKNOWN;
        }
        List<Case> then = new ArrayList<>(cases);
        then.set(number, then.get(number).with(true));
        int found = 0;
        for (int deed = 0; deed < 1 << n; deed++) {
            found += judged(deed) != 0 && judgedBy(deed, then) == 0 ? 1 : 0;
        }
        return found;
    }

    int save(int image) {
        if (image < 0 || image > 1) {
            return UNKNOWN;
        }
        images.set(image, new ArrayList<>(cases));
        return cases.size();
    }

    int back(int image) {
        if (image < 0 || image > 1) {
            return UNKNOWN;
        }
        if (images.get(image) == null) {
            return NOT;
        }
        cases = new ArrayList<>(images.get(image));
        return cases.size();
    }

    int count(int what) {
        switch (what) {
            case 0:
                return n;
            case 1:
                return cases.size();
            case 2:
                return text.length();
            case 3:
                return Arrays.stream(weight).sum();
            default:
                return OUTSIDE;
        }
    }
}
