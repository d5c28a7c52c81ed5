import java.io.IOException;

/** Boundary cases that the document's promises name, a test for each of their sentences. */
public final class PromiseEdgeTests {
    private static final int NONE = Edge.NONE, UNKNOWN = Edge.UNKNOWN, OUTSIDE = Edge.OUTSIDE;
    private static final int NOT = Edge.NOT, FULL = Edge.FULL;
    private static final int LEAST = Edge.LEAST, MOST = Edge.MOST;

    private final Edge edge = new Edge();

    private PromiseEdgeTests() throws IOException {
    }

    public static void main(String[] args) throws IOException {
        PromiseEdgeTests tests = new PromiseEdgeTests();
        tests.toldOnes();
        tests.judgedOnes();
        tests.whatOneCanDo();
        tests.keptAndTurning();
        tests.forgedAndWeights();
        tests.landOfAllDeeds();
        tests.edge.endOfPromises("PromiseEdgeTests");
    }

    // ---- what is told: 1 a new object, 2 write, 3 erase, 4 fault, 5 land, 6 point, 7 older

    private void toldOnes() {
        newObject();
        writeOneToEight();
        writeBytes();
        writeOutside();
        writeFull();
        eraseTellsBytes();
        faultPlace();
        faultNone();
        landTellsLines();
        landOfFault();
        pointWhat();
        pointUnknown();
        pointOutside();
        olderWhat();
        olderUnknown();
        olderOutside();
    }

    private void newObject() {
        edge.promise(1, "Four POINTS, no CASES.");
        LikestCase x = new LikestCase();
        edge.due("POINTS", x.count(0), 4);
        edge.due("CASES", x.count(1), 0);
        edge.due("the last POINT", x.point(3, 0), 1);
        edge.due("no fifth POINT", x.point(4, 0), UNKNOWN);
        edge.due("no CASE", x.older(0, 0), UNKNOWN);
        edge.due("the last DEED", x.judge(15, 0), NONE);
        edge.due("no DEED 16", x.judge(16, 0), OUTSIDE);
        edge.due("THE TEXT is empty", x.count(2), 0);
        edge.due("the constants as the face has them", LikestCase.NONE * 10000 + LikestCase.UNKNOWN * 1000
                + LikestCase.OUTSIDE * 100 + LikestCase.NOT * 10 + LikestCase.FULL, -12345);
    }

    private void writeOneToEight() {
        edge.promise(2, "n (1 .. 8) bytes more of THE TEXT");
        for (int n = 1; n <= 8; n++) {
            LikestCase x = new LikestCase();
            edge.due(n + " bytes", x.write(0x3b3b3b3b3b3b3b3bL, n), n);
            edge.due(n + " bytes more", x.write(0x3b3b3b3b3b3b3b3bL, n), 2 * n);
            edge.due(n + " bytes are there", x.erase(), 2 * n);
        }
    }

    private void writeBytes() {
        edge.promise(2, "byte i being bytes >> 8 i & 255: how many it has.");
        LikestCase x = new LikestCase();
        edge.due("'land 1', the first byte lowest", x.write(0x31_20_64_6e_61_6cL, 6), 6);
        edge.due("is read", x.fault(), NONE);
        edge.due("a negative number: its highest byte is 255", x.write(0xff_20_20_20_20_20_20_20L, 8), 14);
        edge.due("the 255", x.fault(), 13);
        x.erase();
        edge.due("bytes above n are left out", x.write(0xff_ff_31_20_64_6e_61_6cL, 6), 6);
        edge.due("so there is no FAULT", x.fault(), NONE);
        edge.due("'  ;cost ', all eight bytes", x.write(0x20_74_73_6f_63_3b_20_20L, 8), 14);
        edge.due("the end comes too soon", x.fault(), 14);
        edge.due("'0 7'", x.write(0x37_20_30L, 3), 17);
        edge.due("the highest byte was read", x.land(), 2);
        edge.due("it is done", x.point(0, 1), 7);
    }

    private void writeOutside() {
        edge.promise(2, "OUTSIDE; FULL.");
        edge.refused("write, n", Lands::rich, OUTSIDE, (x, n) -> x.write(0x20, n), 0, 9, -1, -8, 64, LEAST, MOST);
    }

    private void writeFull() {
        edge.promise(2, "FULL.");
        for (int n = 1; n <= 8; n++) {
            int room = n - 1;
            edge.refused("write with room for " + room + ", n", () -> blanks(200 - room), FULL,
                    (x, many) -> x.write(0, many), n, 8);
            edge.due("write, just as many as there is room for", blanks(200 - n).write(0, n), 200);
        }
    }

    /** A land with a text of so many blanks. */
    private static LikestCase blanks(int many) {
        LikestCase x = Lands.of(Lands.TWO);
        x.save(0);
        Check.tell(x, " ".repeat(many));
        return x;
    }

    private void eraseTellsBytes() {
        edge.promise(3, "THE TEXT is empty: how many bytes it had.");
        edge.due("none", new LikestCase().erase(), 0);
        LikestCase x = blanks(200);
        edge.due("200", x.erase(), 200);
        edge.due("empty", x.count(2), 0);
        edge.due("empty already", x.erase(), 0);
        edge.due("as much room as at first", Check.tell(x, " ".repeat(200)), 200);
        edge.due("images are kept", x.back(0), 2);
    }

    private void faultPlace() {
        edge.promise(4, "The place of the FAULT (the byte with which the TOKEN begins, or the length)");
        edge.dueFault("x", 0);
        edge.dueFault("", 0);
        edge.dueFault("case 00001", 5);
        edge.dueFault("cost 0 1 99", 9);
        edge.dueFault("land", 4);
        edge.dueFault("land    ", 8);
        edge.dueFault("land 4" + " ".repeat(193) + "x", 199);
        edge.dueFault("cost" + " ".repeat(195) + "0", 200);
    }

    private void faultNone() {
        edge.promise(4, "NONE.");
        edge.dueFault("land 4", NONE);
        LikestCase x = Lands.rich();
        edge.due("a text without FAULT", x.fault(), NONE);
        edge.due("asked again", x.fault(), NONE);
        edge.due("nothing is done by that", x.point(0, 1), 1);
        edge.due("nothing is erased by that", x.count(2), 8);
    }

    private void landTellsLines() {
        edge.promise(5, "THE TEXT's LINES are done, and it is empty then: how many there were.");
        for (int lines = 1; lines <= 8; lines++) {
            LikestCase x = new LikestCase();
            Check.tell(x, Lands.lines("case 1111 2 3", lines));
            edge.due("LINES", x.land(), lines);
            edge.due("they are done", x.count(1), lines);
            edge.due("THE TEXT is empty", x.count(2), 0);
            edge.due("an empty one has a FAULT", x.land(), NOT);
        }
    }

    private void landOfFault() {
        edge.promise(5, "NOT: it has a FAULT.");
        String[] faulty = {"", "x", "land", "land 11", "land 2;weight 2 1", "case 0000 0 1", "drop 4", "cost 0 1;",
            Lands.lines("cost 0 3", 9), " ".repeat(200)};
        for (int i = 0; i < faulty.length; i++) {
            String text = faulty[i];
            edge.refused("land of '" + text + "'", () -> richWith(text), NOT, (x, unused) -> x.land(), i);
        }
    }

    private static LikestCase richWith(String text) {
        LikestCase x = Lands.rich();
        x.erase();
        Check.tell(x, text);
        return x;
    }

    private void pointWhat() {
        edge.promise(6, "Of a POINT: WEIGHT (what 0), COST (1).");
        LikestCase x = Lands.of("land 10;weight 0 0;cost 0 9;weight 9 9;cost 9 0");
        edge.due("WEIGHT of the first", x.point(0, 0), 0);
        edge.due("COST of the first", x.point(0, 1), 9);
        edge.due("WEIGHT of the last", x.point(9, 0), 9);
        edge.due("COST of the last", x.point(9, 1), 0);
    }

    private void pointUnknown() {
        edge.promise(6, "UNKNOWN; OUTSIDE.");
        edge.refused("a POINT of three", Lands::rich, UNKNOWN, (x, p) -> x.point(p, 0), 3, -1, 9, LEAST, MOST);
        edge.refused("a POINT of ten", () -> Lands.wide(10), UNKNOWN, (x, p) -> x.point(p, 1), 10, -1);
        edge.refused("a POINT that was", PromiseEdgeTests::narrowed, UNKNOWN, (x, p) -> x.point(p, 0), 1, 9);
    }

    /** Ten POINTS, then one. */
    private static LikestCase narrowed() {
        return Lands.of("land 10;land 1");
    }

    private void pointOutside() {
        edge.promise(6, "OUTSIDE.");
        edge.refused("what", Lands::rich, OUTSIDE, (x, what) -> x.point(2, what), 2, -1, LEAST, MOST);
    }

    private void olderWhat() {
        edge.promise(7, "Of a CASE: its DEED (what 0), JUDGMENT (1), YEAR (2), 1 PARDONED, 0 (3), how many are ELDER "
                + "(4).");
        LikestCase x = Lands.of("land 10;case 1111111111 3 9999;case 0000000000 0 0");
        int[] first = {1023, 3, 9999, 0, 1};
        int[] second = {0, 0, 0, 0, 0};
        for (int what = 0; what < 5; what++) {
            edge.due("the greatest numbers, what " + what, x.older(0, what), first[what]);
            edge.due("the least numbers, what " + what, x.older(1, what), second[what]);
        }
        x.pardon(0, true);
        edge.due("PARDONED", x.older(0, 3), 1);
        edge.due("FREE then", x.older(0, 1), 0);
        edge.due("eleven are ELDER", Lands.many(12).older(11, 4), 11);
    }

    private void olderUnknown() {
        edge.promise(7, "UNKNOWN; OUTSIDE.");
        edge.refused("a CASE of four", Lands::rich, UNKNOWN, (x, k) -> x.older(k, 0), 4, -1, 11, LEAST, MOST);
        edge.refused("a CASE of twelve", () -> Lands.many(12), UNKNOWN, (x, k) -> x.older(k, 0), 12, -1);
        edge.refused("a CASE of none", Lands::withoutCases, UNKNOWN, (x, k) -> x.older(k, 0), 0, -1);
    }

    private void olderOutside() {
        edge.promise(7, "OUTSIDE.");
        edge.refused("what", Lands::rich, OUTSIDE, (x, what) -> x.older(3, what), 5, -1, LEAST, MOST);
    }

    // ---- judged: 8 judge, 9 like, 10 bring, 11 pardon, 12 deeds

    private void judgedOnes() {
        judgeWhat();
        judgeNone();
        judgeOutside();
        likeOfCase();
        likeUnknown();
        likeOutside();
        bringJudges();
        bringOutside();
        bringNot();
        bringFull();
        pardonOrNot();
        pardonUnknown();
        deedsJudgedSo();
        deedsUnknown();
        deedsOutside();
    }

    private void judgeWhat() {
        edge.promise(8, "A DEED JUDGED: JUDGMENT (what 0), BY (1), LIKENESS to it (2);");
        LikestCase x = Lands.of("land 10;case 0000000000 1 5;case 1111111111 3 5");
        edge.due("JUDGMENT of the first DEED", x.judge(0, 0), 1);
        edge.due("JUDGMENT of the last DEED", x.judge(1023, 0), 3);
        edge.due("BY", x.judge(1023, 1), 1);
        edge.due("LIKENESS", x.judge(1023, 2), 10);
        edge.due("halfway BY the ELDER one", x.judge(31, 1), 0);
        edge.due("halfway, LIKENESS", x.judge(31, 2), 5);
        edge.due("without WEIGHTS, LIKENESS", Lands.of("land 1;weight 0 0;case 1 2 1").judge(1, 2), 0);
    }

    private void judgeNone() {
        edge.promise(8, "NONE: there are no CASES.");
        for (int what = 0; what < 3; what++) {
            edge.due("what " + what, new LikestCase().judge(15, what), NONE);
        }
        edge.due("behind back to none", backToNone().judge(0, 0), NONE);
    }

    /** There were CASES, and none are back. */
    private static LikestCase backToNone() {
        LikestCase x = Lands.of("case 0000 0 1;drop 0");
        x.save(0);
        x.judge(0, 0);
        x.back(0);
        return x;
    }

    private void judgeOutside() {
        edge.promise(8, "OUTSIDE.");
        edge.refused("a DEED", Lands::rich, OUTSIDE, (x, deed) -> x.judge(deed, 0), 8, -1, LEAST, MOST);
        edge.refused("what", Lands::rich, OUTSIDE, (x, what) -> x.judge(0, what), 3, -1, LEAST, MOST);
        edge.refused("a DEED, without CASES", Lands::withoutCases, OUTSIDE, (x, deed) -> x.judge(deed, 0), 16, -1);
        edge.refused("what, without CASES", Lands::withoutCases, OUTSIDE, (x, what) -> x.judge(0, what), 3, -1);
    }

    private void likeOfCase() {
        edge.promise(9, "LIKENESS of a DEED to a CASE.");
        LikestCase x = Lands.wide(10);
        edge.due("the first DEED", x.like(0, 0), 10);
        edge.due("the last DEED", x.like(1023, 0), 0);
        edge.due("the last CASE", Lands.many(12).like(15, 11), 0);
    }

    private void likeUnknown() {
        edge.promise(9, "UNKNOWN; OUTSIDE.");
        edge.refused("a CASE", Lands::rich, UNKNOWN, (x, k) -> x.like(0, k), 4, -1, LEAST, MOST);
        edge.refused("a CASE of none", Lands::withoutCases, UNKNOWN, (x, k) -> x.like(0, k), 0, -1);
    }

    private void likeOutside() {
        edge.promise(9, "OUTSIDE.");
        edge.refused("a DEED", Lands::rich, OUTSIDE, (x, deed) -> x.like(deed, 0), 8, -1, LEAST, MOST);
    }

    private void bringJudges() {
        edge.promise(10, "A DEED is BROUGHT in a YEAR: its JUDGMENT.");
        LikestCase x = Lands.of(Lands.TWO);
        edge.due("the last DEED in YEAR 9999", x.bring(3, 9999), 3);
        edge.due("its YEAR", x.older(2, 2), 9999);
        edge.due("the first DEED in YEAR 0", x.bring(0, 0), 0);
        edge.due("its YEAR", x.older(3, 2), 0);
        edge.due("a twelfth", Lands.many(11).bring(15, 0), 1);
    }

    private void bringOutside() {
        edge.promise(10, "OUTSIDE;");
        edge.refused("a DEED", Lands::rich, OUTSIDE, (x, deed) -> x.bring(deed, 1), 8, -1, LEAST, MOST);
        edge.refused("a YEAR", Lands::rich, OUTSIDE, (x, year) -> x.bring(1, year), 10000, -1, LEAST, MOST);
    }

    private void bringNot() {
        edge.promise(10, "NOT: there are no CASES;");
        edge.refused("a DEED without CASES", Lands::withoutCases, NOT, (x, deed) -> x.bring(deed, 1), 0, 15);
        edge.due("one CASE is enough", Lands.many(1).bring(15, 1), 1);
    }

    private void bringFull() {
        edge.promise(10, "FULL.");
        edge.refused("a thirteenth", () -> Lands.many(12), FULL, (x, deed) -> x.bring(deed, 1), 0, 15);
        LikestCase x = Lands.many(12);
        Lands.then(x, "drop 11");
        edge.due("room again", x.bring(0, 1), 1);
        edge.due("no more room", x.bring(0, 1), FULL);
    }

    private void pardonOrNot() {
        edge.promise(11, "A CASE is PARDONED, or not any more: its JUDGMENT then.");
        LikestCase x = Lands.of(Lands.TWO);
        edge.due("not PARDONED, not any more", x.pardon(1, false), 3);
        edge.due("PARDONED", x.pardon(1, true), 0);
        edge.due("PARDONED twice", x.pardon(1, true), 0);
        edge.due("not any more, once is enough", x.pardon(1, false), 3);
        edge.due("a FREE one", x.pardon(0, true), 0);
        edge.due("a FREE one is PARDONED too", x.older(0, 3), 1);
        edge.due("the last of twelve", Lands.many(12).pardon(11, true), 0);
    }

    private void pardonUnknown() {
        edge.promise(11, "UNKNOWN.");
        edge.refused("a CASE", Lands::rich, UNKNOWN, (x, k) -> x.pardon(k, true), 4, -1, LEAST, MOST);
        edge.refused("a CASE, not any more", Lands::rich, UNKNOWN, (x, k) -> x.pardon(k, false), 4, -1);
        edge.refused("a CASE of none", Lands::withoutCases, UNKNOWN, (x, k) -> x.pardon(k, true), 0, -1);
        edge.refused("a thirteenth", () -> Lands.many(12), UNKNOWN, (x, k) -> x.pardon(k, true), 12);
    }

    private void deedsJudgedSo() {
        edge.promise(12, "How many DEEDS are JUDGED so (0 .. 3), BY a CASE (NONE: any).");
        edge.due("all", Lands.wide(10).deeds(2, -1), 1024);
        edge.due("all, BY the one CASE", Lands.wide(10).deeds(2, 0), 1024);
        edge.due("JUDGMENT 0", Lands.of(Lands.TWO).deeds(0, -1), 3);
        edge.due("JUDGMENT 3", Lands.of(Lands.TWO).deeds(3, -1), 1);
        edge.due("a CASE that JUDGED otherwise", Lands.of(Lands.TWO).deeds(0, 1), 0);
        edge.due("a DEAD one", Lands.many(12).deeds(1, 11), 0);
        edge.due("no CASES", new LikestCase().deeds(0, -1), 0);
    }

    private void deedsUnknown() {
        edge.promise(12, "UNKNOWN; OUTSIDE.");
        edge.refused("a CASE", Lands::rich, UNKNOWN, (x, k) -> x.deeds(0, k), 4, -2, LEAST, MOST);
        edge.refused("a CASE of none", Lands::withoutCases, UNKNOWN, (x, k) -> x.deeds(0, k), 0, -2);
    }

    private void deedsOutside() {
        edge.promise(12, "OUTSIDE.");
        edge.refused("a JUDGMENT", Lands::rich, OUTSIDE, (x, j) -> x.deeds(j, -1), 4, -1, LEAST, MOST);
        edge.refused("a JUDGMENT, BY", Lands::rich, OUTSIDE, (x, j) -> x.deeds(j, 0), 4, -1);
        edge.refused("a JUDGMENT, no CASES", Lands::withoutCases, OUTSIDE, (x, j) -> x.deeds(j, -1), 4, -1);
    }

    // ---- what one can do: 13 least, 14 suits, 15 turns

    private void whatOneCanDo() {
        leastWhat();
        leastNone();
        leastOutside();
        suitsHowMany();
        suitsNone();
        suitsOutside();
        suitsOfTooManyPoints();
        suitsWithoutCases();
        turnsLeast();
        turnsOutside();
        turnsNot();
    }

    private void leastWhat() {
        edge.promise(13, "LEAST CHANGE: COSTS (what 0), the DEED (1);");
        LikestCase x = Lands.of("land 10;case 0000000000 0 2;case 0000000001 3 1;cost 9 9");
        edge.due("COSTS from the first DEED", x.least(0, 3, 0), 9);
        edge.due("the DEED", x.least(0, 3, 1), 512);
        edge.due("nothing to change", x.least(1023, 3, 0), 0);
        edge.due("the last DEED itself", x.least(1023, 3, 1), 1023);
    }

    private void leastNone() {
        edge.promise(13, "NONE.");
        for (int what = 0; what < 2; what++) {
            edge.due("no such JUDGMENT, what " + what, Lands.of(Lands.TWO).least(0, 2, what), NONE);
            edge.due("no CASES, what " + what, new LikestCase().least(15, 3, what), NONE);
        }
    }

    private void leastOutside() {
        edge.promise(13, "OUTSIDE.");
        edge.refused("a DEED", Lands::rich, OUTSIDE, (x, deed) -> x.least(deed, 0, 0), 8, -1, LEAST, MOST);
        edge.refused("a JUDGMENT", Lands::rich, OUTSIDE, (x, j) -> x.least(0, j, 0), 4, -1, LEAST, MOST);
        edge.refused("what", Lands::rich, OUTSIDE, (x, what) -> x.least(0, 0, what), 2, -1, LEAST, MOST);
        edge.refused("what, no CASES", Lands::withoutCases, OUTSIDE, (x, what) -> x.least(0, 0, what), 2, -1);
    }

    private void suitsHowMany() {
        edge.promise(14, "SUITS: how many (i NONE), the i-th DEED;");
        LikestCase x = Lands.of(Lands.SIX);
        edge.due("none are needed", x.suits(63, 3, -1), 0);
        edge.due("one", x.suits(7, 3, -1), 1);
        edge.due("its DEED", x.suits(7, 3, 0), 15);
        edge.due("two", x.suits(3, 3, -1), 2);
        edge.due("the first DEED", x.suits(3, 3, 0), 15);
        edge.due("the second DEED", x.suits(3, 3, 1), 7);
    }

    private void suitsNone() {
        edge.promise(14, "NONE: there is no such row, or not so many.");
        LikestCase x = Lands.of(Lands.SIX);
        edge.due("no such row", x.suits(0, 3, -1), NONE);
        edge.due("no such row, the first", x.suits(0, 3, 0), NONE);
        edge.due("a row of none, the first", x.suits(63, 3, 0), NONE);
        edge.due("a row of one, the second", x.suits(7, 3, 1), NONE);
        edge.due("a row of two, the third", x.suits(3, 3, 2), NONE);
        edge.due("a row of two, the last that can be asked for", x.suits(3, 3, MOST), NONE);
    }

    private void suitsOutside() {
        edge.promise(14, "OUTSIDE;");
        edge.refused("a DEED", Lands::rich, OUTSIDE, (x, deed) -> x.suits(deed, 0, -1), 8, -1, LEAST, MOST);
        edge.refused("a JUDGMENT", Lands::rich, OUTSIDE, (x, j) -> x.suits(0, j, -1), 4, -1, LEAST, MOST);
        edge.refused("i", Lands::rich, OUTSIDE, (x, i) -> x.suits(0, 0, i), -2, LEAST);
    }

    private void suitsOfTooManyPoints() {
        edge.promise(14, "NOT: more than 6 POINTS;");
        edge.due("six POINTS", Lands.wide(6).suits(63, 2, -1), 0);
        edge.refused("seven POINTS, a DEED", () -> Lands.wide(7), NOT, (x, deed) -> x.suits(deed, 2, -1), 0, 127);
        edge.refused("seven POINTS, i", () -> Lands.wide(7), NOT, (x, i) -> x.suits(0, 2, i), 0, 1, 2);
    }

    private void suitsWithoutCases() {
        edge.promise(14, "there are no CASES.");
        edge.refused("a DEED", Lands::withoutCases, NOT, (x, deed) -> x.suits(deed, 0, -1), 0, 15);
        edge.refused("a DEED, the first", Lands::withoutCases, NOT, (x, deed) -> x.suits(deed, 0, 0), 0, 15);
    }

    private void turnsLeast() {
        edge.promise(15, "TURNS: the DEED; NONE.");
        LikestCase x = Lands.of(Lands.SIX);
        edge.due("the least", x.turns(0, 0), 0);
        edge.due("the told one itself is not the least", x.turns(63, 3), 0);
        edge.due("none", x.turns(0, 3), NONE);
        edge.due("none of a JUDGMENT that no CASE has", x.turns(0, 1), NONE);
        edge.due("nothing was brought", x.count(1), 2);
    }

    private void turnsOutside() {
        edge.promise(15, "OUTSIDE;");
        edge.refused("a DEED", Lands::rich, OUTSIDE, (x, deed) -> x.turns(deed, 0), 8, -1, LEAST, MOST);
        edge.refused("a JUDGMENT", Lands::rich, OUTSIDE, (x, j) -> x.turns(0, j), 4, -1, LEAST, MOST);
    }

    private void turnsNot() {
        edge.promise(15, "NOT: as suits().");
        edge.due("six POINTS", Lands.wide(6).turns(63, 2), 0);
        edge.refused("seven POINTS", () -> Lands.wide(7), NOT, (x, deed) -> x.turns(deed, 2), 0, 127);
        edge.refused("no CASES", Lands::withoutCases, NOT, (x, deed) -> x.turns(deed, 0), 0, 15);
    }

    // ---- what is kept, what turns: 16 dead, 17 keep, 18 turning, 19 odds

    private void keptAndTurning() {
        deadByBits();
        keepWhat();
        keepOutside();
        keepNot();
        turningByBits();
        turningOutside();
        turningNot();
        oddsOfSet();
        oddsOutside();
        oddsNot();
    }

    private void deadByBits() {
        edge.promise(16, "DEAD ones, by bits.");
        edge.due("no CASES", new LikestCase().dead(), 0);
        edge.due("none", Lands.wide(10).dead(), 0);
        edge.due("all but the first of twelve", Lands.many(12).dead(), 4094);
        LikestCase x = Lands.of("case 0000 1 9");
        for (int i = 0; i < 11; i++) {
            x.bring(0, 8 - Math.min(i, 8));
        }
        edge.due("all but the tenth of twelve", x.dead(), 4095 - 512);
    }

    private void keepWhat() {
        edge.promise(17, "KEEP: how many (what 0), the set (1).");
        edge.due("none", new LikestCase().keep(0), 0);
        edge.due("none, the set", new LikestCase().keep(1), 0);
        edge.due("the least of ten sets of one, though this CASE is DEAD", youngestFirst().keep(1), 1);
        edge.due("all of two", Lands.of(Lands.TWO).keep(0), 2);
    }

    /** Ten CASES of one JUDGMENT, BY the last of which all are JUDGED. */
    private static LikestCase youngestFirst() {
        LikestCase x = Lands.of("land 8;case 00000000 2 10");
        for (int year = 9; year > 0; year--) {
            x.bring(0, year);
        }
        return x;
    }

    private void keepOutside() {
        edge.promise(17, "OUTSIDE;");
        edge.refused("what", Lands::rich, OUTSIDE, (x, what) -> x.keep(what), 2, -1, LEAST, MOST);
    }

    private void keepNot() {
        edge.promise(17, "NOT.");
        edge.due("eight POINTS and ten CASES", youngestFirst().keep(0), 1);
        edge.refused("nine POINTS, what", () -> Lands.wide(9), NOT, (x, what) -> x.keep(what), 0, 1);
        edge.refused("eleven CASES, what", () -> Lands.many(11), NOT, (x, what) -> x.keep(what), 0, 1);
    }

    private void turningByBits() {
        edge.promise(18, "POINTS that TURN a DEED, by bits.");
        LikestCase x = Lands.of("land 1;case 0 0 1;case 1 3 1");
        edge.due("the one POINT", x.turning(0), 1);
        edge.due("the one POINT, from so", x.turning(1), 1);
        edge.due("none of ten", Lands.wide(10).turning(1023), 0);
        LikestCase alone = Lands.of("land 3;case 000 0 2;case 100 1 1;case 010 1 1;case 001 1 1");
        edge.due("all", alone.turning(0), 7);
    }

    private void turningOutside() {
        edge.promise(18, "OUTSIDE;");
        edge.refused("a DEED", Lands::rich, OUTSIDE, (x, deed) -> x.turning(deed), 8, -1, LEAST, MOST);
    }

    private void turningNot() {
        edge.promise(18, "NOT: there are no CASES.");
        edge.refused("a DEED", Lands::withoutCases, NOT, (x, deed) -> x.turning(deed), 0, 15);
    }

    private void oddsOfSet() {
        edge.promise(19, "ODDS of a JUDGMENT, POINTS of a set not being known.");
        LikestCase x = Lands.of(Lands.TWO);
        edge.due("no POINT: as it is JUDGED", x.odds(3, 0, 5, 3, 0), 1);
        edge.due("no POINT: not as it is not", x.odds(3, 0, 5, 0, 0), 0);
        edge.due("POINT 0 not known", x.odds(3, 1, 4, 3, 0) * 10 + x.odds(3, 1, 4, 3, 1), 25);
        edge.due("what the DEED says of it does not count", x.odds(2, 1, 4, 3, 0) * 10 + x.odds(2, 1, 4, 3, 1), 25);
        edge.due("all POINTS", x.odds(0, 3, 5, 3, 0) * 10 + x.odds(0, 3, 5, 3, 1), 14);
        edge.due("a JUDGMENT that no CASE has", x.odds(0, 3, 5, 1, 0) * 10 + x.odds(0, 3, 5, 1, 1), 1);
    }

    private void oddsOutside() {
        edge.promise(19, "OUTSIDE: the DEED, the set (bits of POINTS, 8 at most), p, JUDGMENT, part;");
        edge.refused("a DEED", Lands::rich, OUTSIDE, (x, deed) -> x.odds(deed, 1, 5, 0, 0), 8, -1, LEAST, MOST);
        edge.refused("a set", Lands::rich, OUTSIDE, (x, set) -> x.odds(0, set, 5, 0, 0), 8, -1, 256, LEAST, MOST);
        edge.refused("p", Lands::rich, OUTSIDE, (x, p) -> x.odds(0, 1, p, 0, 0), 11, -1, LEAST, MOST);
        edge.refused("a JUDGMENT", Lands::rich, OUTSIDE, (x, j) -> x.odds(0, 1, 5, j, 0), 4, -1, LEAST, MOST);
        edge.refused("a part", Lands::rich, OUTSIDE, (x, part) -> x.odds(0, 1, 5, 0, part), 2, -1, LEAST, MOST);
        edge.refused("nine POINTS of nine", () -> Lands.wide(9), OUTSIDE, (x, set) -> x.odds(0, set, 5, 0, 0), 511);
        edge.due("eight POINTS of nine", Lands.wide(9).odds(0, 510, 5, 2, 0), 1);
    }

    private void oddsNot() {
        edge.promise(19, "NOT: there are no CASES.");
        edge.refused("a part", Lands::withoutCases, NOT, (x, part) -> x.odds(0, 15, 5, 0, part), 0, 1);
    }

    // ---- forged ones, weights: 20 forged, 21 cleaned, 22 hang

    private void forgedAndWeights() {
        forgedByBits();
        cleanedWhat();
        cleanedOutside();
        cleanedNot();
        hangHowMany();
        hangNone();
        hangUnknown();
        hangNot();
    }

    private void forgedByBits() {
        edge.promise(20, "FORGED, by bits.");
        edge.due("no CASES", new LikestCase().forged(), 0);
        edge.due("none", Lands.many(12).forged(), 0);
        LikestCase x = Lands.of(Lands.lines("case 0000 0 1", 6));
        Lands.then(x, Lands.lines("case 0000 3 2", 6));
        edge.due("the last six of twelve", x.forged(), 4032);
        edge.due("ten POINTS", Lands.of("land 10;case 0000000000 0 9;case 1111111111 1 1").forged(), 1);
    }

    private void cleanedWhat() {
        edge.promise(21, "CLEANED: how many (what 0), the set (1).");
        edge.due("none", new LikestCase().cleaned(0), 0);
        edge.due("none, the set", new LikestCase().cleaned(1), 0);
        LikestCase x = Lands.of(Lands.lines("case 0000 1 1", 5));
        Lands.then(x, Lands.lines("case 0000 2 1", 5));
        edge.due("five of ten", x.cleaned(0), 5);
        edge.due("five of ten, the least set", x.cleaned(1), 31);
        x = Lands.of("case 0000 0 1;case 0000 1 1;case 0000 2 1;case 0000 3 1");
        edge.due("all but one", x.cleaned(0), 3);
        edge.due("all but the last one", x.cleaned(1), 7);
    }

    private void cleanedOutside() {
        edge.promise(21, "OUTSIDE;");
        edge.refused("what", Lands::rich, OUTSIDE, (x, what) -> x.cleaned(what), 2, -1, LEAST, MOST);
    }

    private void cleanedNot() {
        edge.promise(21, "NOT: more than 10 CASES.");
        edge.due("ten CASES", Lands.many(10).cleaned(1), 0);
        edge.refused("eleven CASES, what", () -> Lands.many(11), NOT, (x, what) -> x.cleaned(what), 0, 1);
        edge.refused("twelve CASES, what", () -> Lands.many(12), NOT, (x, what) -> x.cleaned(what), 0, 1);
    }

    private void hangHowMany() {
        edge.promise(22, "HANG: how many (i NONE), the WEIGHT of a POINT in the first;");
        int due = 1;
        for (int points = 1; points <= 6; points++) {
            due *= 3;
            edge.due("all WEIGHTS of " + points, Lands.wide(points).hang(-1), due);
            edge.due("the WEIGHT of the last POINT of " + points, Lands.wide(points).hang(points - 1), 0);
        }
        edge.due("none", Lands.of(Lands.TWO).hang(-1), 0);
        edge.due("twelve CASES", Lands.many(12).hang(-1), 81);
    }

    private void hangNone() {
        edge.promise(22, "NONE: there is none.");
        edge.due("POINT 0", Lands.of(Lands.SIX).hang(0), NONE);
        edge.due("the last POINT", Lands.of(Lands.SIX).hang(5), NONE);
    }

    private void hangUnknown() {
        edge.promise(22, "UNKNOWN;");
        edge.refused("a POINT", Lands::rich, UNKNOWN, (x, i) -> x.hang(i), 3, -2, LEAST, MOST);
        edge.refused("a POINT, no CASES", Lands::withoutCases, UNKNOWN, (x, i) -> x.hang(i), 4, -2);
    }

    private void hangNot() {
        edge.promise(22, "NOT: more than 6 POINTS.");
        edge.refused("seven POINTS", () -> Lands.wide(7), NOT, (x, i) -> x.hang(i), -1, 0, 6);
        edge.refused("ten POINTS", () -> Lands.wide(10), NOT, (x, i) -> x.hang(i), -1, 9);
        edge.due("seven POINTS without CASES", Lands.of("land 7").hang(-1), NOT);
    }

    // ---- the land of all deeds: 23 border, 24 parts, 25 frees, 26 save, 27 back, 28 count

    private void landOfAllDeeds() {
        borderCounted();
        borderNot();
        partsWhat();
        partsOutside();
        freesCounted();
        freesUnknown();
        saveKeeps();
        saveUnknown();
        backAsKept();
        backUnknown();
        backNot();
        countWhat();
        countOutside();
    }

    private void borderCounted() {
        edge.promise(23, "BORDER.");
        edge.due("none", Lands.wide(10).border(), 0);
        LikestCase x = Lands.of("land 10;case 0000000000 0 1;case 0000000001 1 1");
        edge.due("the last of ten POINTS", x.border(), 512);
        edge.due("one POINT", Lands.of("land 1;case 0 0 1;case 1 1 1").border(), 1);
    }

    private void borderNot() {
        edge.promise(23, "NOT: there are no CASES.");
        edge.refused("border", Lands::withoutCases, NOT, (x, unused) -> x.border(), 0);
        edge.due("behind the last drop", Lands.of("case 0000 0 1;drop 0").border(), NOT);
    }

    private void partsWhat() {
        edge.promise(24, "PARTS of a JUDGMENT: how many (what 0), DEEDS of the greatest (1; 0).");
        for (int judgment = 0; judgment < 4; judgment++) {
            edge.due("no CASES, JUDGMENT " + judgment, new LikestCase().parts(judgment, 0), 0);
            edge.due("no CASES, DEEDS of the greatest", new LikestCase().parts(judgment, 1), 0);
        }
        edge.due("the whole land", Lands.wide(10).parts(2, 0), 1);
        edge.due("the whole land, DEEDS", Lands.wide(10).parts(2, 1), 1024);
        edge.due("no DEED JUDGED so", Lands.wide(10).parts(3, 0), 0);
        edge.due("no DEED JUDGED so: 0", Lands.wide(10).parts(3, 1), 0);
    }

    private void partsOutside() {
        edge.promise(24, "OUTSIDE.");
        edge.refused("a JUDGMENT", Lands::rich, OUTSIDE, (x, j) -> x.parts(j, 0), 4, -1, LEAST, MOST);
        edge.refused("what", Lands::rich, OUTSIDE, (x, what) -> x.parts(0, what), 2, -1, LEAST, MOST);
        edge.refused("what, no CASES", Lands::withoutCases, OUTSIDE, (x, what) -> x.parts(0, what), 2, -1);
    }

    private void freesCounted() {
        edge.promise(25, "What a PARDON FREES.");
        LikestCase x = Lands.wide(10);
        edge.due("all", x.frees(0), 1024);
        edge.due("it is not PARDONED by that", x.older(0, 3), 0);
        x.pardon(0, true);
        edge.due("PARDONED already", x.frees(0), 0);
        x.pardon(0, false);
        edge.due("not any more", x.frees(0), 1024);
        edge.due("the last of twelve, DEAD", Lands.many(12).frees(11), 0);
    }

    private void freesUnknown() {
        edge.promise(25, "UNKNOWN.");
        edge.refused("a CASE", Lands::rich, UNKNOWN, (x, k) -> x.frees(k), 4, -1, LEAST, MOST);
        edge.refused("a CASE of none", Lands::withoutCases, UNKNOWN, (x, k) -> x.frees(k), 0, -1);
    }

    private void saveKeeps() {
        edge.promise(26, "CASES are kept (image 0, 1): how many.");
        edge.due("none", new LikestCase().save(0), 0);
        edge.due("twelve", Lands.many(12).save(1), 12);
        LikestCase x = Lands.many(1);
        edge.due("image 0", x.save(0), 1);
        x.bring(0, 1);
        edge.due("image 1", x.save(1), 2);
        edge.due("each its own", x.back(0) * 10 + x.back(1), 12);
        edge.due("over what was kept", x.save(0), 2);
        x.pardon(0, true);
        edge.due("kept as it was", x.back(0) * 10 + x.older(0, 3), 20);
    }

    private void saveUnknown() {
        edge.promise(26, "UNKNOWN: no such image.");
        edge.refused("an image", Lands::rich, UNKNOWN, (x, image) -> x.save(image), 2, -1, LEAST, MOST);
    }

    private void backAsKept() {
        edge.promise(27, "CASES are as they were kept: how many.");
        LikestCase x = new LikestCase();
        x.save(1);
        edge.due("none", x.back(1), 0);
        x = Lands.many(12);
        x.save(0);
        x.pardon(11, true);
        edge.due("twelve", x.back(0), 12);
        edge.due("as they were", x.older(11, 3), 0);
        edge.due("back again", x.back(0), 12);
        edge.due("ELDER ones of the last", x.older(11, 4), 11);
        edge.due("no room for one more", x.bring(0, 0), FULL);
        x = Lands.of(Lands.TWO);
        x.save(0);
        x.bring(0, 0);
        x.save(1);
        edge.due("back to two, then to three", x.back(0) * 10 + x.back(1), 23);
        edge.due("the last one's YEAR", x.older(2, 2), 0);
        edge.due("ELDER ones of all", x.older(0, 4) * 100 + x.older(1, 4) * 10 + x.older(2, 4), 120);
        x.back(0);
        edge.due("ELDER ones of two", x.older(0, 4) * 10 + x.older(1, 4), 1);
        x = keptOtherwise();
        edge.due("as many, but the last two are others", x.back(1), 4);
        edge.due("DEEDS", x.older(2, 0) * 10 + x.older(3, 0), 30);
        edge.due("JUDGMENTS", x.older(2, 1) * 10 + x.older(3, 1), 21);
        edge.due("YEARS", x.older(2, 2) * 10 + x.older(3, 2), 75);
        edge.due("ELDER ones", x.older(2, 4) * 10 + x.older(3, 4), 30);
    }

    /** In image 1 DEEDS 3, 0 were brought last, in YEARS 7, 5; now it is DEEDS 0, 3, in YEARS 1, 2. */
    private static LikestCase keptOtherwise() {
        LikestCase x = Lands.of("land 2;case 11 2 6;case 00 1 6");
        x.save(0);
        x.bring(3, 7);
        x.bring(0, 5);
        x.save(1);
        x.back(0);
        x.bring(0, 1);
        x.bring(3, 2);
        return x;
    }

    private void backUnknown() {
        edge.promise(27, "UNKNOWN;");
        edge.refused("an image", Lands::rich, UNKNOWN, (x, image) -> x.back(image), 2, -1, LEAST, MOST);
    }

    private void backNot() {
        edge.promise(27, "NOT: nothing was kept since the last text.");
        edge.refused("a new object, image", LikestCase::new, NOT, (x, image) -> x.back(image), 0, 1);
        edge.refused("behind a text, image", PromiseEdgeTests::richBehindText, NOT, (x, image) -> x.back(image), 0, 1);
        edge.refused("the other image", Lands::withoutCases, NOT, (x, image) -> x.back(image), 1);
        LikestCase x = richBehindText();
        x.save(1);
        edge.due("kept since then", x.back(1), 4);
        x.land();
        edge.due("a text with a FAULT was not the last one", x.back(1), 4);
    }

    private static LikestCase richBehindText() {
        LikestCase x = Lands.rich();
        x.land();
        return x;
    }

    private void countWhat() {
        edge.promise(28, "0 POINTS, 1 CASES, 2 bytes of THE TEXT, 3 WEIGHTS together.");
        LikestCase full = Lands.many(12);
        Check.tell(full, " ".repeat(200));
        int[] most = {4, 12, 200, 4};
        LikestCase least = Lands.of("land 1;weight 0 0");
        int[] few = {1, 0, 0, 0};
        for (int what = 0; what < 4; what++) {
            edge.due("a full one, what " + what, full.count(what), most[what]);
            edge.due("an empty one, what " + what, least.count(what), few[what]);
        }
        LikestCase x = Lands.of("land 10;weight 0 9;weight 1 9;weight 2 9;weight 3 9;weight 4 9;weight 5 9;weight 6 9");
        Lands.then(x, "weight 7 9;weight 8 9;weight 9 9");
        edge.due("the greatest WEIGHTS together", x.count(3), 90);
        edge.due("ten POINTS", x.count(0), 10);
    }

    private void countOutside() {
        edge.promise(28, "OUTSIDE.");
        edge.refused("what", Lands::rich, OUTSIDE, (x, what) -> x.count(what), 4, -1, LEAST, MOST);
    }
}
