import java.util.Arrays;

/** A land of DEEDS that are JUDGED as the likest older CASE was. README.md says how to use it. */
public final class LikestCase {
    public static final int NONE = -1, UNKNOWN = -2, OUTSIDE = -3, NOT = -4, FULL = -5;

    private static final int MOST_POINTS = 10, POINTS_AT_FIRST = 4;
    private static final int MOST_CASES = 12;
    private static final int MOST_BYTES = 200, MOST_LINES = 8, MOST_WRITTEN = 8;
    private static final int FREE = 0, ROPE = 3;
    private static final int LAST_YEAR = 9999;
    private static final int MOST_WEIGHT = 9;
    private static final int SUITS_POINTS = 6, MOST_SUITS = 2;
    private static final int KEEP_POINTS = 8, KEEP_CASES = 10;
    private static final int CLEANED_CASES = 10;
    private static final int HANG_POINTS = 6, HANG_WEIGHTS = 3;
    private static final int ODDS_POINTS = 8, TENTHS = 10;

    private final Court court;
    private final Text text;
    private final Pleader pleader;
    private final Keeper keeper;
    private final Examiner examiner;
    private final Surveyor surveyor;
    private final Image firstImage;
    private final Image secondImage;

    public LikestCase() {
        court = new Court();
        text = new Text();
        pleader = new Pleader(court);
        keeper = new Keeper(court);
        examiner = new Examiner(court);
        surveyor = new Surveyor(court);
        firstImage = new Image();
        secondImage = new Image();
    }

    // ---- what is told

    public int write(long bytes, int n) {
        if (!within(n, 1, MOST_WRITTEN)) {
            return OUTSIDE;
        }
        if (text.size() + n > MOST_BYTES) {
            return FULL;
        }
        for (int i = 0; i < n; i++) {
            text.append((int) (bytes >> 8 * i & 255));
        }
        return text.size();
    }

    public int erase() {
        int had = text.size();
        text.clear();
        return had;
    }

    public int fault() {
        return text.readAll(court.points(), court.roll.size());
    }

    public int land() {
        if (text.readAll(court.points(), court.roll.size()) != NONE) {
            return NOT;
        }
        int lines = text.lines();
        for (int line = 0; line < lines; line++) {
            perform(line);
        }
        firstImage.kept = false;
        secondImage.kept = false;
        text.clear();
        return lines;
    }

    private void perform(int line) {
        int first = text.value(line, 0);
        int second = text.value(line, 1);
        switch (text.word(line)) {
            case Text.LAND:
                court.found(first);
                break;
            case Text.WEIGHT:
                court.setWeight(first, second);
                break;
            case Text.COST:
                court.costs.put(first, second);
                break;
            case Text.CASE:
                court.addCase(first, second, text.value(line, 2));
                break;
            case Text.PARDON:
                court.setPardoned(first, true);
                break;
            default:
                court.dropCase(first);
                break;
        }
    }

    public int point(int point, int what) {
        if (!court.isPoint(point)) {
            return UNKNOWN;
        }
        if (!within(what, 0, 1)) {
            return OUTSIDE;
        }
        return what == 0 ? court.weights.at(point) : court.costs.at(point);
    }

    public int older(int number, int what) {
        Roll roll = court.roll;
        if (!roll.has(number)) {
            return UNKNOWN;
        }
        switch (what) {
            case 0:
                return roll.deedOf(number);
            case 1:
                return roll.judgmentOf(number);
            case 2:
                return roll.yearOf(number);
            case 3:
                return roll.isPardoned(number) ? 1 : 0;
            case 4:
                return Integer.bitCount(roll.eldersOf(number));
            default:
                return OUTSIDE;
        }
    }

    // ---- judged

    public int judge(int deed, int what) {
        if (!court.isDeed(deed) || !within(what, 0, 2)) {
            return OUTSIDE;
        }
        int by = court.likestCase(deed);
        if (by == NONE || what == 1) {
            return by;
        }
        return what == 0 ? court.roll.judgmentOf(by) : court.likeness(deed, by);
    }

    public int like(int deed, int number) {
        if (!court.roll.has(number)) {
            return UNKNOWN;
        }
        if (!court.isDeed(deed)) {
            return OUTSIDE;
        }
        return court.likeness(deed, number);
    }

    public int bring(int deed, int year) {
        if (!court.isDeed(deed) || !within(year, 0, LAST_YEAR)) {
            return OUTSIDE;
        }
        if (court.roll.isEmpty()) {
            return NOT;
        }
        if (court.roll.size() == MOST_CASES) {
            return FULL;
        }
        int judgment = court.roll.judgmentOf(court.likestCase(deed));
        court.addCase(deed, judgment, year);
        return judgment;
    }

    public int pardon(int number, boolean is) {
        if (!court.roll.has(number)) {
            return UNKNOWN;
        }
        court.setPardoned(number, is);
        return court.roll.judgmentOf(number);
    }

    public int deeds(int judgment, int number) {
        if (number != NONE && !court.roll.has(number)) {
            return UNKNOWN;
        }
        if (!isJudgment(judgment)) {
            return OUTSIDE;
        }
        court.judgeAll();
        int found = 0;
        for (int deed = 0; deed < court.deedCount(); deed++) {
            if (court.judgmentOf(deed) == judgment
                    && (number == NONE || court.byWhich(deed) == number)) {
                found++;
            }
        }
        return found;
    }

    // ---- what one can do

    public int least(int deed, int judgment, int what) {
        if (!court.isDeed(deed) || !isJudgment(judgment) || !within(what, 0, 1)) {
            return OUTSIDE;
        }
        court.judgeAll();
        int nearest = pleader.nearest(deed, judgment);
        if (nearest == NONE || what == 1) {
            return nearest;
        }
        return court.costs.together(deed ^ nearest);
    }

    public int suits(int deed, int judgment, int i) {
        if (!court.isDeed(deed) || !isJudgment(judgment) || i < NONE) {
            return OUTSIDE;
        }
        if (!court.takesSuits()) {
            return NOT;
        }
        court.judgeAll();
        int fewest = pleader.fewestSuits(deed, judgment);
        if (i == NONE) {
            return fewest;
        }
        return i < fewest ? pleader.suit(i) : NONE;
    }

    public int turns(int deed, int judgment) {
        if (!court.isDeed(deed) || !isJudgment(judgment)) {
            return OUTSIDE;
        }
        if (!court.takesSuits()) {
            return NOT;
        }
        court.judgeAll();
        return pleader.safeDeed(deed, judgment);
    }

    // ---- what is kept, what turns

    public int dead() {
        court.judgeAll();
        return keeper.deadCases();
    }

    public int keep(int what) {
        if (!within(what, 0, 1)) {
            return OUTSIDE;
        }
        if (court.points() > KEEP_POINTS || court.roll.size() > KEEP_CASES) {
            return NOT;
        }
        court.judgeAll();
        return countOrSet(keeper.fewestCases(), what);
    }

    public int turning(int deed) {
        if (!court.isDeed(deed)) {
            return OUTSIDE;
        }
        if (court.roll.isEmpty()) {
            return NOT;
        }
        court.judgeAll();
        return keeper.turningPoints(deed);
    }

    public long odds(int deed, int set, int p, int judgment, int part) {
        if (!court.isDeed(deed) || !court.isDeed(set) || Integer.bitCount(set) > ODDS_POINTS
                || !within(p, 0, TENTHS) || !isJudgment(judgment) || !within(part, 0, 1)) {
            return OUTSIDE;
        }
        if (court.roll.isEmpty()) {
            return NOT;
        }
        court.judgeAll();
        long above = keeper.likely(deed, set, p, judgment);
        long below = power(TENTHS, Integer.bitCount(set));
        long common = Math.max(1, commonDivisor(above, below));
        return (part == 0 ? above : below) / common;
    }

    // ---- forged ones, weights

    public int forged() {
        return examiner.forgedCases();
    }

    public int cleaned(int what) {
        if (!within(what, 0, 1)) {
            return OUTSIDE;
        }
        if (court.roll.size() > CLEANED_CASES) {
            return NOT;
        }
        return countOrSet(examiner.fewestLeftOut(), what);
    }

    public int hang(int i) {
        if (i != NONE && !court.isPoint(i)) {
            return UNKNOWN;
        }
        if (court.points() > HANG_POINTS) {
            return NOT;
        }
        return i == NONE ? examiner.countHanging() : examiner.firstHanging();
    }

    // ---- the land of all deeds

    public int border() {
        if (court.roll.isEmpty()) {
            return NOT;
        }
        court.judgeAll();
        return surveyor.unlikePairs();
    }

    public int parts(int judgment, int what) {
        if (!isJudgment(judgment) || !within(what, 0, 1)) {
            return OUTSIDE;
        }
        court.judgeAll();
        surveyor.survey(judgment);
        return what == 0 ? surveyor.partCount() : surveyor.greatestPart();
    }

    public int frees(int number) {
        if (!court.roll.has(number)) {
            return UNKNOWN;
        }
        if (court.roll.judgmentOf(number) == FREE) {
            return 0;
        }
        court.judgeAll();
        // a PARDON changes no LIKENESS: it FREES just the DEEDS that are JUDGED BY this CASE
        return surveyor.judgedBy(number);
    }

    public int save(int image) {
        if (!isImage(image)) {
            return UNKNOWN;
        }
        Image told = imageOf(image);
        told.roll.copyFrom(court.roll);
        told.kept = true;
        return court.roll.size();
    }

    public int back(int image) {
        if (!isImage(image)) {
            return UNKNOWN;
        }
        Image told = imageOf(image);
        if (!told.kept) {
            return NOT;
        }
        court.takeCases(told.roll);
        return court.roll.size();
    }

    private static boolean isImage(int image) {
        return within(image, 0, 1);
    }

    private Image imageOf(int image) {
        return image == 0 ? firstImage : secondImage;
    }

    public int count(int what) {
        switch (what) {
            case 0:
                return court.points();
            case 1:
                return court.roll.size();
            case 2:
                return text.size();
            case 3:
                return court.weights.together(court.deedCount() - 1);
            default:
                return OUTSIDE;
        }
    }

    // ---- what several of these use

    private static boolean within(int number, int low, int high) {
        return number >= low && number <= high;
    }

    private static boolean isJudgment(int judgment) {
        return within(judgment, FREE, ROPE);
    }

    private static boolean holds(int set, int number) {
        return (set >> number & 1) != 0;
    }

    private static int countOrSet(int set, int what) {
        return what == 0 ? Integer.bitCount(set) : set;
    }

    private static long power(int base, int exponent) {
        long product = 1;
        for (int i = 0; i < exponent; i++) {
            product *= base;
        }
        return product;
    }

    private static long commonDivisor(long first, long second) {
        long larger = first;
        long smaller = second;
        // numbers here stay below 2^27, for which far fewer than 100 divisions are enough
        for (int i = 0; i < 100 && smaller != 0; i++) {
            long rest = larger % smaller;
            larger = smaller;
            smaller = rest;
        }
        return larger;
    }

    /** A number for each POINT (WEIGHTS or COSTS), and for each set of POINTS theirs together. */
    private static final class Scale {
        private final int[] each = new int[MOST_POINTS];
        private final int[] sums = new int[1 << MOST_POINTS];
        private int points;

        void fill(int newPoints, int number) {
            points = Math.min(newPoints, each.length);
            Arrays.fill(each, 0);
            Arrays.fill(sums, 0);
            for (int point = 0; point < points; point++) {
                put(point, number);
            }
        }

        void put(int point, int number) {
            if (!hasPoint(point)) {
                return;
            }
            int more = number - each[point];
            if (more == 0) {
                return;
            }
            each[point] = number;
            int sets = Math.min(1 << points, sums.length);
            for (int set = 0; set < sets; set++) {
                if (holds(set, point)) {
                    sums[set] += more;
                }
            }
        }

        boolean hasPoint(int point) {
            return point >= 0 && point < points;
        }

        int at(int point) {
            return hasPoint(point) ? each[point] : 0;
        }

        int together(int set) {
            return set >= 0 && set < sums.length ? sums[set] : 0;
        }
    }

    /** The CASES by their numbers. */
    private static final class Roll {
        private final int[] deeds = new int[MOST_CASES];
        private final int[] firstJudgments = new int[MOST_CASES];
        private final int[] years = new int[MOST_CASES];
        private final boolean[] pardoned = new boolean[MOST_CASES];
        private final int[] elders = new int[MOST_CASES];
        private int size;

        int size() {
            return size;
        }

        boolean isEmpty() {
            return size == 0;
        }

        boolean has(int number) {
            return number >= 0 && number < size;
        }

        int allCases() {
            return (1 << size) - 1;
        }

        int deedOf(int number) {
            return number >= 0 && number < size ? deeds[number] : NONE;
        }

        int firstJudgmentOf(int number) {
            return has(number) ? firstJudgments[number] : NONE;
        }

        int judgmentOf(int number) {
            if (number < 0 || number >= size) {
                return NONE;
            }
            return pardoned[number] ? FREE : firstJudgments[number];
        }

        int yearOf(int number) {
            return has(number) ? years[number] : NONE;
        }

        boolean isPardoned(int number) {
            return has(number) && pardoned[number];
        }

        /** The CASES that are ELDER than this one, by bits. */
        int eldersOf(int number) {
            return has(number) ? elders[number] : 0;
        }

        void setPardoned(int number, boolean is) {
            if (has(number)) {
                pardoned[number] = is;
            }
        }

        void clear() {
            size = 0;
        }

        void append(int deed, int judgment, int year) {
            if (size >= MOST_CASES) {
                return;
            }
            deeds[size] = deed;
            firstJudgments[size] = judgment;
            years[size] = year;
            pardoned[size] = false;
            size++;
            findElders();
        }

        void remove(int number) {
            if (!has(number)) {
                return;
            }
            for (int to = number; to + 1 < size; to++) {
                copyCase(this, to + 1, to);
            }
            size--;
            findElders();
        }

        void copyFrom(Roll other) {
            size = Math.min(other.size, MOST_CASES);
            for (int number = 0; number < size; number++) {
                copyCase(other, number, number);
            }
            findElders();
        }

        private void copyCase(Roll other, int from, int to) {
            if (from < 0 || from >= MOST_CASES || to < 0 || to >= MOST_CASES) {
                return;
            }
            deeds[to] = other.deeds[from];
            firstJudgments[to] = other.firstJudgments[from];
            years[to] = other.years[from];
            pardoned[to] = other.pardoned[from];
        }

        private void findElders() {
            for (int number = 0; number < size; number++) {
                elders[number] = 0;
                for (int other = 0; other < size; other++) {
                    if (years[other] < years[number]
                            || years[other] == years[number] && other < number) {
                        elders[number] |= 1 << other;
                    }
                }
            }
        }

        /** The CASE of a set to which a DEED is likest, of several the ELDEST; NONE of an empty set. */
        int likest(int deed, int set, Scale weights) {
            int best = NONE;
            int leastUnlike = 0;
            for (int number = 0; number < size; number++) {
                if (!holds(set, number)) {
                    continue;
                }
                int unlike = weights.together(deed ^ deeds[number]);
                if (best == NONE || unlike < leastUnlike
                        || unlike == leastUnlike && holds(elders[best], number)) {
                    best = number;
                    leastUnlike = unlike;
                }
            }
            return best;
        }

        /** Whether every CASE of a set FOLLOWS by the others of it. */
        boolean allFollow(int set, Scale weights) {
            for (int number = 0; number < size; number++) {
                if (holds(set, number) && !follows(number, set, weights)) {
                    return false;
                }
            }
            return true;
        }

        boolean follows(int number, int set, Scale weights) {
            int by = likest(deedOf(number), set & eldersOf(number), weights);
            return by == NONE || firstJudgmentOf(by) == firstJudgmentOf(number);
        }
    }

    /** CASES as they were kept. */
    private static final class Image {
        private final Roll roll = new Roll();
        private boolean kept;
    }

    /** The land as it stands: POINTS, CASES, and BY which of these each DEED is JUDGED. */
    private static final class Court {
        private final Scale weights = new Scale();
        private final Scale costs = new Scale();
        private final Roll roll = new Roll();
        private int points;
        /** What judgeAll() found for each DEED; it holds until CASES or WEIGHTS change. */
        private final int[] by = new int[1 << MOST_POINTS];
        private final int[] judgments = new int[1 << MOST_POINTS];
        private boolean allJudged;

        Court() {
            found(POINTS_AT_FIRST);
        }

        void found(int newPoints) {
            points = Math.max(1, Math.min(newPoints, MOST_POINTS));
            weights.fill(points, 1);
            costs.fill(points, 1);
            roll.clear();
            allJudged = false;
        }

        void setWeight(int point, int weight) {
            weights.put(point, weight);
            allJudged = false;
        }

        void addCase(int deed, int judgment, int year) {
            roll.append(deed, judgment, year);
            allJudged = false;
        }

        void dropCase(int number) {
            roll.remove(number);
            allJudged = false;
        }

        void setPardoned(int number, boolean is) {
            roll.setPardoned(number, is);
            allJudged = false;
        }

        void takeCases(Roll other) {
            roll.copyFrom(other);
            allJudged = false;
        }

        int points() {
            return points;
        }

        int deedCount() {
            return 1 << points;
        }

        boolean isPoint(int point) {
            return point >= 0 && point < points;
        }

        boolean isDeed(int deed) {
            return deed >= 0 && deed < deedCount();
        }

        boolean takesSuits() {
            return points <= SUITS_POINTS && !roll.isEmpty();
        }

        /** The CASE BY which a DEED is JUDGED, or NONE. */
        int likestCase(int deed) {
            return roll.likest(deed, roll.allCases(), weights);
        }

        /** To be called ahead of byWhich(), judgmentOf() and unlikeness(). */
        void judgeAll() {
            if (allJudged) {
                return;
            }
            int deeds = Math.min(deedCount(), Math.min(by.length, judgments.length));
            for (int deed = 0; deed < deeds; deed++) {
                by[deed] = likestCase(deed);
                judgments[deed] = roll.judgmentOf(by[deed]);
            }
            allJudged = true;
        }

        int byWhich(int deed) {
            return deed >= 0 && deed < by.length ? by[deed] : NONE;
        }

        int judgmentOf(int deed) {
            return deed >= 0 && deed < judgments.length ? judgments[deed] : NONE;
        }

        int likeness(int deed, int number) {
            return weights.together(deedCount() - 1) - weights.together(deed ^ roll.deedOf(number));
        }

        /** WEIGHTS of POINTS in which a DEED is unlike to the CASE BY which it is JUDGED. */
        int unlikeness(int deed) {
            return weights.together(deed ^ roll.deedOf(byWhich(deed)));
        }
    }

    /** THE TEXT, and its LINES as they are read, TOKEN by TOKEN, to its first FAULT. */
    private static final class Text {
        static final int LAND = 0, WEIGHT = 1, COST = 2, CASE = 3, PARDON = 4, DROP = 5;

        private static final int LETTERS = 0, DIGITS = 1, OTHER = 2;
        private static final int MOST_DIGITS = 4, VALUES = 3;

        private final int[] bytes = new int[MOST_BYTES];
        private int size;
        private final int[] words = new int[MOST_LINES];
        private final int[] values = new int[MOST_LINES * VALUES];
        private int lines;
        private int fault;
        /** How many POINTS and CASES there are behind the LINES that were read. */
        private int points, cases;
        /** The TOKEN that is looked at: where it begins, and the place behind it. */
        private int start, end;

        int size() {
            return size;
        }

        void clear() {
            size = 0;
        }

        void append(int value) {
            if (size < bytes.length) {
                bytes[size] = value;
                size++;
            }
        }

        /** A byte, or NONE behind the end. */
        private int byteAt(int place) {
            return place >= 0 && place < size ? bytes[place] : NONE;
        }

        int lines() {
            return lines;
        }

        int word(int line) {
            return line >= 0 && line < words.length ? words[line] : NONE;
        }

        int value(int line, int which) {
            int place = line * VALUES + which;
            return place >= 0 && place < values.length ? values[place] : 0;
        }

        /** Reads all LINES for a land of so many POINTS and CASES: the place of the FAULT, or NONE. */
        int readAll(int pointsNow, int casesNow) {
            points = pointsNow;
            cases = casesNow;
            lines = 0;
            fault = NONE;
            end = 0;
            boolean more = true;
            for (int line = 0; line < MOST_LINES && more; line++) {
                readLine(line);
                more = fault == NONE && goesOn();
            }
            return fault;
        }

        /** Whether one more LINE is to come; what stands behind a LINE and is no such sign is a FAULT. */
        private boolean goesOn() {
            nextToken();
            if (start >= size) {
                return false;
            }
            if (byteAt(start) != ';' || lines == MOST_LINES) {
                fail();
                return false;
            }
            return true;
        }

        private void readLine(int line) {
            nextToken();
            int word = wordHere();
            if (word == NONE || word == CASE && cases == MOST_CASES) {
                fail();
                return;
            }
            readValues(line, word);
            lines = line + 1;
        }

        private void readValues(int line, int word) {
            switch (word) {
                case LAND:
                    points = number(1, MOST_POINTS);
                    cases = 0;
                    keepLine(line, word, points, 0, 0);
                    break;
                case WEIGHT:
                case COST:
                    int point = number(0, points - 1);
                    keepLine(line, word, point, number(0, MOST_WEIGHT), 0);
                    break;
                case CASE:
                    int deed = figures();
                    int judgment = number(FREE, ROPE);
                    keepLine(line, word, deed, judgment, number(0, LAST_YEAR));
                    cases++;
                    break;
                default:
                    keepLine(line, word, number(0, cases - 1), 0, 0);
                    cases -= word == DROP ? 1 : 0;
                    break;
            }
        }

        private void keepLine(int line, int word, int first, int second, int third) {
            int place = line * VALUES;
            if (line >= 0 && line < words.length && place + 2 < values.length) {
                words[line] = word;
                values[place] = first;
                values[place + 1] = second;
                values[place + 2] = third;
            }
        }

        /** Only the first FAULT counts. */
        private void fail() {
            if (fault == NONE) {
                fault = start;
            }
        }

        private void nextToken() {
            start = end;
            while (start < size && byteAt(start) == ' ') {
                start++;
            }
            int kind = kindAt(start);
            end = Math.min(start + 1, size);
            while (end < size && kind != OTHER && kindAt(end) == kind) {
                end++;
            }
        }

        private int kindAt(int place) {
            int value = place >= 0 && place < size ? bytes[place] : NONE;
            if (value >= 'a' && value <= 'z') {
                return LETTERS;
            }
            return value >= '0' && value <= '9' ? DIGITS : OTHER;
        }

        private int wordHere() {
            if (isWord("land")) {
                return LAND;
            }
            if (isWord("weight")) {
                return WEIGHT;
            }
            if (isWord("cost")) {
                return COST;
            }
            if (isWord("case")) {
                return CASE;
            }
            if (isWord("pardon")) {
                return PARDON;
            }
            return isWord("drop") ? DROP : NONE;
        }

        private boolean isWord(String word) {
            if (end - start != word.length()) {
                return false;
            }
            for (int i = 0; i < word.length(); i++) {
                if (byteAt(start + i) != word.charAt(i)) {
                    return false;
                }
            }
            return true;
        }

        /** The next TOKEN as a number within bounds; behind a FAULT no TOKEN is looked at any more. */
        private int number(int low, int high) {
            if (fault != NONE) {
                return 0;
            }
            nextToken();
            if (kindAt(start) != DIGITS || end - start > MOST_DIGITS) {
                fail();
                return 0;
            }
            int value = 0;
            for (int place = start; place < end; place++) {
                value = value * 10 + byteAt(place) - '0';
            }
            if (!within(value, low, high)) {
                fail();
                return 0;
            }
            return value;
        }

        /** The next TOKEN as a DEED, a figure for each POINT. */
        private int figures() {
            nextToken();
            if (kindAt(start) != DIGITS || end - start != points) {
                fail();
                return 0;
            }
            int deed = 0;
            for (int point = 0; point < points; point++) {
                int figure = byteAt(start + point) - '0';
                if (figure > 1) {
                    fail();
                    return 0;
                }
                deed |= figure << point;
            }
            return deed;
        }
    }

    /** What one can do so that a DEED is JUDGED as one wishes. */
    private static final class Pleader {
        private final Court court;
        private final int[] row = new int[MOST_SUITS];

        Pleader(Court court) {
            this.court = court;
        }

        /** The DEED of the LEAST CHANGE, or NONE. */
        int nearest(int deed, int judgment) {
            int best = NONE;
            int leastCost = 0;
            for (int other = 0; other < court.deedCount(); other++) {
                int cost = court.costs.together(deed ^ other);
                if ((best == NONE || cost < leastCost) && court.judgmentOf(other) == judgment) {
                    best = other;
                    leastCost = cost;
                }
            }
            return best;
        }

        /** How many SUITS are to be BROUGHT, or NONE; suit() tells them then. */
        int fewestSuits(int told, int judgment) {
            if (court.judgmentOf(told) == judgment) {
                return 0;
            }
            for (int first = 0; first < court.deedCount(); first++) {
                if (judgedBehind(told, first) == judgment) {
                    row[0] = first;
                    return 1;
                }
            }
            for (int first = 0; first < court.deedCount(); first++) {
                for (int second = 0; second < court.deedCount(); second++) {
                    if (judgedBehindBoth(told, first, second) == judgment) {
                        row[0] = first;
                        row[1] = second;
                        return 2;
                    }
                }
            }
            return NONE;
        }

        int suit(int i) {
            return i >= 0 && i < row.length ? row[i] : NONE;
        }

        /** The least DEED of TURNS, or NONE. */
        int safeDeed(int told, int judgment) {
            for (int first = 0; first < court.deedCount(); first++) {
                if (judgedBehind(told, first) == judgment && isSafe(told, first, judgment)) {
                    return first;
                }
            }
            return NONE;
        }

        private boolean isSafe(int told, int first, int judgment) {
            for (int second = 0; second < court.deedCount(); second++) {
                if (judgedBehindBoth(told, first, second) != judgment) {
                    return false;
                }
            }
            return true;
        }

        // A DEED that is BROUGHT in YEAR 9999 is the youngest CASE of all, so it judges only those
        // DEEDS that are less unlike to it than to every CASE ahead of it.

        /** The JUDGMENT of a DEED, another one having been BROUGHT. */
        private int judgedBehind(int deed, int first) {
            boolean byFirst = court.weights.together(deed ^ first) < court.unlikeness(deed);
            return court.judgmentOf(byFirst ? first : deed);
        }

        /** The JUDGMENT of a DEED, two others having been BROUGHT one after the other. */
        private int judgedBehindBoth(int deed, int first, int second) {
            int unlikeBefore = Math.min(court.unlikeness(deed), court.weights.together(deed ^ first));
            boolean bySecond = court.weights.together(deed ^ second) < unlikeBefore;
            return judgedBehind(bySecond ? second : deed, first);
        }
    }

    /** Which CASES are needed, which POINTS turn a DEED, what is likely. */
    private static final class Keeper {
        private final Court court;
        /** The DEED by which the last set of CASES failed: it is likely that the next one does too. */
        private int witness;

        Keeper(Court court) {
            this.court = court;
        }

        int deadCases() {
            int living = 0;
            for (int deed = 0; deed < court.deedCount(); deed++) {
                int by = court.byWhich(deed);
                if (by != NONE) {
                    living |= 1 << by;
                }
            }
            return court.roll.allCases() & ~living;
        }

        /** KEEP: the set. */
        int fewestCases() {
            int all = court.roll.allCases();
            for (int size = 0; size < court.roll.size(); size++) {
                for (int set = 0; set < all; set++) {
                    if (Integer.bitCount(set) == size && judgesAlike(set)) {
                        return set;
                    }
                }
            }
            return all;
        }

        private boolean judgesAlike(int set) {
            int last = court.deedCount() - 1;
            int from = witness;
            for (int i = 0; i <= last; i++) {
                int deed = from + i & last;
                int by = court.roll.likest(deed, set, court.weights);
                if (court.roll.judgmentOf(by) != court.judgmentOf(deed)) {
                    witness = deed;
                    return false;
                }
            }
            return true;
        }

        int turningPoints(int deed) {
            int turning = 0;
            for (int point = 0; point < court.points(); point++) {
                if (court.judgmentOf(deed ^ 1 << point) != court.judgmentOf(deed)) {
                    turning |= 1 << point;
                }
            }
            return turning;
        }

        /** ODDS of a JUDGMENT, in parts of 10 to the power of the number of POINTS not known. */
        long likely(int deed, int set, int p, int judgment) {
            int unknown = Integer.bitCount(set);
            long sum = 0;
            for (int other = 0; other < court.deedCount(); other++) {
                boolean canBe = ((deed ^ other) & ~set) == 0;
                if (canBe && court.judgmentOf(other) == judgment) {
                    int so = Integer.bitCount(other & set);
                    sum += power(p, so) * power(TENTHS - p, unknown - so);
                }
            }
            return sum;
        }
    }

    /** Which CASES FOLLOW from ELDER ones. */
    private static final class Examiner {
        private final Court court;

        Examiner(Court court) {
            this.court = court;
        }

        int forgedCases() {
            Roll roll = court.roll;
            int forged = 0;
            for (int number = 0; number < roll.size(); number++) {
                if (!roll.follows(number, roll.allCases(), court.weights)) {
                    forged |= 1 << number;
                }
            }
            return forged;
        }

        /** CLEANED: the set that is left out. */
        int fewestLeftOut() {
            int all = court.roll.allCases();
            for (int size = 0; size < court.roll.size(); size++) {
                for (int set = 0; set < all; set++) {
                    if (Integer.bitCount(set) == size
                            && court.roll.allFollow(all & ~set, court.weights)) {
                        return set;
                    }
                }
            }
            return all;
        }

        // The second ELDEST CASE FOLLOWS just if it was JUDGED as the ELDEST; then the third just if
        // it was JUDGED as these two, and so on: by all WEIGHTS alike. So HANG is all or none.

        int countHanging() {
            return hangsTogether() ? (int) power(HANG_WEIGHTS, court.points()) : 0;
        }

        /** The WEIGHT of every POINT in the first WEIGHTS of HANG, or NONE. */
        int firstHanging() {
            return hangsTogether() ? 0 : NONE;
        }

        private boolean hangsTogether() {
            return court.roll.allFollow(court.roll.allCases(), court.weights);
        }
    }

    /** The land of all DEEDS. */
    private static final class Surveyor {
        private final Court court;
        private final int[] queue = new int[1 << MOST_POINTS];
        private final int[] reached = new int[1 << MOST_POINTS];
        private int queued;
        private int partCount;
        private int greatestPart;

        Surveyor(Court court) {
            this.court = court;
        }

        int partCount() {
            return partCount;
        }

        int greatestPart() {
            return greatestPart;
        }

        int judgedBy(int number) {
            int found = 0;
            for (int deed = 0; deed < court.deedCount(); deed++) {
                if (court.byWhich(deed) == number) {
                    found++;
                }
            }
            return found;
        }

        int unlikePairs() {
            int found = 0;
            for (int deed = 0; deed < court.deedCount(); deed++) {
                for (int point = 0; point < court.points(); point++) {
                    int other = deed | 1 << point;
                    if (other != deed && court.judgmentOf(other) != court.judgmentOf(deed)) {
                        found++;
                    }
                }
            }
            return found;
        }

        /** Finds the PARTS of a JUDGMENT: how many, and how great the greatest is. */
        void survey(int judgment) {
            partCount = 0;
            greatestPart = 0;
            Arrays.fill(reached, 0);
            for (int deed = 0; deed < court.deedCount(); deed++) {
                queued = 0;
                reach(deed, judgment);
                if (queued > 0) {
                    partCount++;
                    greatestPart = Math.max(greatestPart, partSize(judgment));
                }
            }
        }

        /** The size of the PART whose first DEED is in the queue. */
        private int partSize(int judgment) {
            for (int next = 0; next < queued && next < queue.length; next++) {
                for (int point = 0; point < court.points(); point++) {
                    reach(queue[next] ^ 1 << point, judgment);
                }
            }
            return queued;
        }

        /** Puts a DEED that is JUDGED so into the queue, if it has not been there. */
        private void reach(int deed, int judgment) {
            if (!court.isDeed(deed) || queued >= queue.length || deed >= reached.length) {
                return;
            }
            if (reached[deed] == 0 && court.judgmentOf(deed) == judgment) {
                reached[deed] = 1;
                queue[queued] = deed;
                queued++;
            }
        }
    }
}
