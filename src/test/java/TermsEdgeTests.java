import java.io.IOException;

/** Boundary cases that the document's Terms name, a test for each of their sentences. */
public final class TermsEdgeTests {
    private static final int NONE = Edge.NONE, UNKNOWN = Edge.UNKNOWN, OUTSIDE = Edge.OUTSIDE;
    private static final int NOT = Edge.NOT, FULL = Edge.FULL;
    private static final int LEAST = Edge.LEAST, MOST = Edge.MOST;

    /** Two POINTS: DEEDS 1, 2, 3 are FREE by CASE 0, DEED 0 ROPE by CASE 1. */
    private static final String MIRRORED = "land 2;case 11 0 10;case 00 3 20";
    private static final String REFUSED = "Refused, and nothing changes: UNKNOWN (no such CASE, POINT), OUTSIDE "
            + "(another number is not as told), NOT (not now: too many POINTS, CASES; as told), FULL: the first of "
            + "these that fits.";

    private final Edge edge = new Edge();

    private TermsEdgeTests() throws IOException {
    }

    public static void main(String[] args) throws IOException {
        TermsEdgeTests tests = new TermsEdgeTests();
        tests.numbersOfTheLand();
        tests.cases();
        tests.linesOfTheText();
        tests.whatStandsInLines();
        tests.tokens();
        tests.faults();
        tests.linesAreDone();
        tests.judged();
        tests.whatOneCanDo();
        tests.keptAndTurning();
        tests.followed();
        tests.landOfAllDeeds();
        tests.refusedInOrder();
        tests.lowestTerms();
        tests.fiveHundredAndTwelveCalls();
        tests.edge.endOfTerms("TermsEdgeTests");
    }

    // ---- 1: POINTS, DEEDS, WEIGHTS, COSTS, JUDGMENTS

    private void numbersOfTheLand() {
        pointsOneToTen();
        deedsByBits();
        deedsWithinTheLand();
        weights();
        costs();
        judgments();
    }

    private void pointsOneToTen() {
        edge.terms(5, "DEEDS have n POINTS (1 .. 10; 4 at first)");
        edge.due("POINTS at first", new LikestCase().count(0), 4);
        edge.dueFault("land 0", 5);
        edge.due("one POINT", Lands.of("land 1").count(0), 1);
        edge.due("ten POINTS", Lands.of("land 10").count(0), 10);
        edge.dueFault("land 11", 5);
        edge.dueFault("land 9999", 5);
    }

    private void deedsByBits() {
        edge.terms(7, "a DEED is a number, POINT p being its bit p");
        for (int p = 0; p < 10; p++) {
            String figures = "0".repeat(p) + "1" + "0".repeat(9 - p);
            edge.due("POINT " + p + " alone", Lands.of("land 10;case " + figures + " 0 1").older(0, 0), 1 << p);
        }
    }

    private void deedsWithinTheLand() {
        edge.terms(8, "(0 .. 2^n - 1)");
        for (int n = 1; n <= 10; n++) {
            int points = n;
            int deeds = 1 << n;
            LikestCase x = Lands.wide(n);
            edge.due("DEED 0 of " + n + " POINTS", x.judge(0, 2), n);
            edge.due("the last DEED of " + n + " POINTS", x.judge(deeds - 1, 2), 0);
            edge.refused("a DEED of " + n + " POINTS", () -> Lands.wide(points), OUTSIDE,
                    (y, deed) -> y.judge(deed, 0), -1, deeds, LEAST, MOST);
        }
    }

    private void weights() {
        edge.terms(6, "WEIGHTS of POINTS are 0 .. 9 (1 each at first)");
        for (int p = 0; p < 4; p++) {
            edge.due("at first, POINT " + p, new LikestCase().point(p, 0), 1);
        }
        edge.due("WEIGHT 0", Lands.of("weight 3 0").point(3, 0), 0);
        edge.due("WEIGHT 9", Lands.of("weight 3 9").point(3, 0), 9);
        edge.dueFault("weight 3 10", 9);
        edge.dueFault("weight 3 9999", 9);
    }

    private void costs() {
        edge.terms(6, "COSTS 0 .. 9 (1 each)");
        for (int p = 0; p < 4; p++) {
            edge.due("at first, POINT " + p, new LikestCase().point(p, 1), 1);
        }
        edge.due("COST 0", Lands.of("cost 3 0").point(3, 1), 0);
        edge.due("COST 9", Lands.of("cost 3 9").point(3, 1), 9);
        edge.dueFault("cost 3 10", 7);
        edge.dueFault("cost 3 9999", 7);
    }

    private void judgments() {
        edge.terms(7, "JUDGMENTS are 0 FREE, 1 FINE, 2 GAOL, 3 ROPE.");
        for (int judgment = 0; judgment < 4; judgment++) {
            edge.due("JUDGMENT", Lands.of("case 0000 " + judgment + " 1").older(0, 1), judgment);
        }
        edge.dueFault("case 0000 4 1", 10);
        edge.dueFault("case 0000 9999 1", 10);
    }

    // ---- 1: CASES

    private void cases() {
        casesAsTheyCome();
        twelveCases();
        years();
        pardonedFromThenOn();
        elder();
    }

    private void casesAsTheyCome() {
        edge.terms(7, "CASES are 0, 1 .. as they come");
        LikestCase x = Lands.of("case 1000 0 9;case 0100 0 8;case 0010 0 7");
        for (int number = 0; number < 3; number++) {
            edge.due("DEED of CASE " + number + ", whatever its YEAR", x.older(number, 0), 1 << number);
        }
        edge.due("no CASE 3", x.older(3, 0), UNKNOWN);
        x.bring(8, 0);
        edge.due("the one that came last, though it is the ELDEST", x.older(3, 0), 8);
    }

    private void twelveCases() {
        edge.terms(10, "12 at most (none at first)");
        LikestCase x = new LikestCase();
        edge.due("none at first", x.count(1), 0);
        edge.due("no CASE 0", x.older(0, 0), UNKNOWN);
        Lands.then(x, Lands.lines("case 0000 0 1", 6));
        Lands.then(x, Lands.lines("case 0000 0 1", 5));
        edge.due("eleven, a twelfth", x.bring(0, 1), 0);
        edge.due("twelve", x.count(1), 12);
        edge.due("CASE 11 is there", x.older(11, 4), 11);
        edge.due("a thirteenth", x.bring(0, 1), FULL);
        edge.due("CASE 12 is not there", x.older(12, 0), UNKNOWN);
        edge.dueFault(x, "case 0000 0 1", 0);
    }

    private void years() {
        edge.terms(7, "a YEAR (0 .. 9999)");
        edge.due("YEAR 0", Lands.of("case 0000 0 0").older(0, 2), 0);
        edge.due("YEAR 9999", Lands.of("case 0000 0 9999").older(0, 2), 9999);
        edge.dueFault("case 0000 0 10000", 12);
    }

    private void pardonedFromThenOn() {
        edge.terms(11, "a PARDONED one is judged FREE from then on.");
        LikestCase x = Lands.of(Lands.TWO);
        edge.due("brought ahead of it", x.bring(3, 30), 3);
        edge.due("PARDONED", x.pardon(1, true), 0);
        edge.due("its JUDGMENT", x.older(1, 1), 0);
        edge.due("what was brought ahead of it stays", x.older(2, 1), 3);
        edge.due("brought from then on", x.bring(3, 40), 0);
        edge.due("behind a text too", Lands.then(x, "cost 0 1").older(1, 1), 0);
    }

    private void elder() {
        edge.terms(7, "Of two CASES that of the lesser YEAR is the ELDER, of like YEARS the lesser number.");
        LikestCase x = Lands.of("case 0000 0 9999;case 0000 1 0;case 0000 2 9999;case 0000 3 0");
        int[] elders = {2, 0, 3, 1};
        for (int number = 0; number < 4; number++) {
            edge.due("ELDER than " + number, x.older(number, 4), elders[number]);
        }
        x = Lands.of("case 0000 0 10;case 0000 0 9");
        edge.due("9 is less than 10", x.older(0, 4), 1);
    }

    // ---- 1: THE TEXT, its LINES

    private void linesOfTheText() {
        twoHundredBytes();
        eightLines();
        signBetweenLines();
        wordsOfLines();
        withoutPoints();
    }

    private void twoHundredBytes() {
        edge.terms(2, "THE TEXT is a row of bytes, 200 at most");
        LikestCase x = Lands.of("land 10");
        String text = Lands.lines("case 1111111111 0003 9999", 6) + ";case 1111111111 003 9999;case 1111111111 3 9";
        edge.due("200 bytes", Check.tell(x, text), 200);
        edge.due("a byte more", x.write(32, 1), FULL);
        edge.due("200 bytes can be read", x.fault(), NONE);
        edge.due("200 bytes can be done", x.land(), 8);
        edge.due("the last byte too", x.older(7, 2), 9);
    }

    private void eightLines() {
        edge.terms(4, "LINES with ; (59) between, 8 at most");
        edge.dueFault("cost 0 1", NONE);
        edge.dueFault(Lands.lines("cost 0 1", 8), NONE);
        edge.dueFault(Lands.lines("cost 0 1", 9), 71);
        edge.dueFault(Lands.lines("cost 0 1", 8) + ";", 71);
        LikestCase x = new LikestCase();
        Check.tell(x, Lands.lines("cost 0 1", 8));
        edge.due("eight LINES done", x.land(), 8);
        Check.tell(x, Lands.lines("cost 0 1", 9));
        edge.due("nine LINES", x.land(), NOT);
    }

    private void signBetweenLines() {
        edge.terms(4, "with ; (59) between");
        edge.dueFault("cost 0 1;cost 0 1", NONE);
        edge.dueFault("cost 0 1:cost 0 1", 8);
        edge.dueFault("cost 0 1<cost 0 1", 8);
        edge.dueFault("cost 0 1,cost 0 1", 8);
        edge.dueFault("cost 0 1 cost 0 1", 9);
        edge.dueFault(";cost 0 1", 0);
        edge.dueFault("cost 0 1;;cost 0 1", 9);
        edge.dueFault("cost 0 1;", 9);
        edge.dueFault(";", 0);
    }

    private void wordsOfLines() {
        edge.terms(4, "each is one of: land N. weight P W. cost P C. case B J Y. pardon K. drop K.");
        String[] stand = {"land 4", "weight 0 1", "cost 0 1", "case 0000 0 1", "pardon 0", "drop 0"};
        for (String line : stand) {
            edge.dueFault(Lands.many(1), line, NONE);
            edge.dueFault(Lands.many(1), line.substring(1), 0);
            edge.dueFault(Lands.many(1), "x" + line, 0);
            edge.dueFault(Lands.many(1), "b" + line.substring(1), 0);
            edge.dueFault(Lands.many(1), line.replaceFirst(". ", "x "), 0);
            edge.dueFault(Lands.many(1), line.replaceFirst(" ", "x "), 0);
            edge.dueFault(Lands.many(1), line.substring(line.indexOf(' ') - 1), 0);
            edge.dueFault(Lands.many(1), line + " 0", line.length() + 1);
            edge.dueFault(Lands.many(1), line + " x", line.length() + 1);
        }
        edge.dueFault("bring 0 1", 0);
        edge.dueFault("free 0", 0);
    }

    private void withoutPoints() {
        edge.terms(4, "(As written here, without points;");
        edge.dueFault("land 4.", 6);
        edge.dueFault("weight 0 1.", 10);
        edge.dueFault("land 4.;cost 0 1", 6);
    }

    // ---- 1: what stands in the LINES

    private void whatStandsInLines() {
        landAsAtFirst();
        pointsBehindLinesAhead();
        figuresOfDeeds();
        thirteenthCase();
        casesBehindLinesAhead();
        dropped();
    }

    private void landAsAtFirst() {
        edge.terms(5, "land: N POINTS, WEIGHTS, COSTS as at first, no CASES;");
        LikestCase x = Lands.of("weight 0 9;weight 3 0;cost 0 9;cost 3 0;case 0000 0 1;case 1111 0 2");
        Lands.then(x, "land 4");
        edge.due("POINTS", x.count(0), 4);
        edge.due("CASES", x.count(1), 0);
        for (int p = 0; p < 4; p++) {
            edge.due("WEIGHT " + p, x.point(p, 0), 1);
            edge.due("COST " + p, x.point(p, 1), 1);
        }
        Lands.then(x, "weight 3 9;land 3;land 10");
        edge.due("WEIGHTS of ten POINTS, which were four and three", x.count(3), 10);
        edge.due("COST of the last one", x.point(9, 1), 1);
    }

    private void pointsBehindLinesAhead() {
        edge.terms(4, "P a POINT that there is behind the LINES ahead;");
        edge.dueFault("weight 3 1", NONE);
        edge.dueFault("weight 4 1", 7);
        edge.dueFault("land 2;weight 1 1", NONE);
        edge.dueFault("land 2;weight 2 1", 14);
        edge.dueFault("land 10;cost 9 1", NONE);
        edge.dueFault("land 10;cost 10 1", 13);
        edge.dueFault("cost 3 1;land 1;cost 0 1", NONE);
        edge.dueFault("cost 9 1;land 10", 5);
        edge.dueFault("land 10;land 1;cost 1 1", 20);
    }

    private void figuresOfDeeds() {
        edge.terms(4, "B: the DEED as a row of figures 0 and 1, one for each POINT, POINT 0 first;");
        edge.dueFault("case 0101 0 1", NONE);
        edge.dueFault("case 010 0 1", 5);
        edge.dueFault("case 01010 0 1", 5);
        edge.dueFault("case 2000 0 1", 5);
        edge.dueFault("case 0002 0 1", 5);
        edge.dueFault("case 0009 0 1", 5);
        edge.dueFault("land 1;case 1 0 1", NONE);
        edge.dueFault("land 1;case 2 0 1", 12);
        edge.dueFault("land 10;case 1111111111 0 1", NONE);
        edge.dueFault("land 10;case 111111111 0 1", 13);
        edge.dueFault("land 10;case 11111111111 0 1", 13);
        edge.dueFault("case 0000 0 1;land 5;case 0000 0 1", 26);
        edge.due("POINT 0 first", Lands.of("case 1000 0 1").older(0, 0), 1);
        edge.due("the last POINT last", Lands.of("case 0001 0 1").older(0, 0), 8);
    }

    private void thirteenthCase() {
        edge.terms(4, "case: one more, a thirteenth cannot stand there (at its word);");
        edge.dueFault(Lands.many(11), "case 0000 0 1", NONE);
        edge.dueFault(Lands.many(12), "case 0000 0 1", 0);
        edge.dueFault(Lands.many(12), "case 0002 9 99999", 0);
        edge.dueFault(Lands.many(11), "case 0000 0 1;case 0000 0 1", 14);
        edge.dueFault(Lands.many(12), "drop 0;case 0000 0 1", NONE);
        edge.dueFault(Lands.many(12), "land 4;case 0000 0 1", NONE);
        edge.dueFault(Lands.many(12), "pardon 0;case 0000 0 1", 9);
    }

    private void casesBehindLinesAhead() {
        edge.terms(4, "K a CASE that there is behind the LINES ahead;");
        edge.dueFault("pardon 0", 7);
        edge.dueFault("drop 0", 5);
        edge.dueFault("case 0000 0 1;pardon 0", NONE);
        edge.dueFault("case 0000 0 1;pardon 1", 21);
        edge.dueFault("case 0000 0 1;drop 0;drop 0", 26);
        edge.dueFault(Lands.many(12), "pardon 11", NONE);
        edge.dueFault(Lands.many(12), "pardon 12", 7);
        edge.dueFault(Lands.many(12), "drop 11;drop 11", 13);
        edge.dueFault(Lands.many(12), "land 4;drop 0", 12);
    }

    private void dropped() {
        edge.terms(5, "drop: it is no more, those behind it get a number less;");
        String three = "case 1000 1 5;case 0100 2 6;case 0010 3 7;pardon 1;";
        LikestCase first = Lands.of(three + "drop 0");
        edge.due("the first: CASES", first.count(1), 2);
        edge.due("the first: DEEDS", first.older(0, 0) * 10 + first.older(1, 0), 24);
        edge.due("the first: PARDONED", first.older(0, 3) * 10 + first.older(1, 3), 10);
        LikestCase middle = Lands.of(three + "drop 1");
        edge.due("the middle one: DEEDS", middle.older(0, 0) * 10 + middle.older(1, 0), 14);
        edge.due("the middle one: PARDONED", middle.older(0, 3) * 10 + middle.older(1, 3), 0);
        LikestCase last = Lands.of(three + "drop 2");
        edge.due("the last: DEEDS", last.older(0, 0) * 10 + last.older(1, 0), 12);
        LikestCase eldest = Lands.of("case 0000 1 1;case 0000 2 3;case 0000 3 2;drop 0");
        edge.due("the ELDEST: ELDER ones than those behind it", eldest.older(0, 4) * 10 + eldest.older(1, 4), 10);
        LikestCase all = Lands.of(three + "drop 0;drop 0;drop 0");
        edge.due("all: CASES", all.count(1), 0);
        edge.due("all: no DEED is JUDGED", all.judge(0, 0), NONE);
    }

    // ---- 1: TOKENS, the FAULT

    private void tokens() {
        smallLetters();
        digits();
        blanks();
    }

    private void smallLetters() {
        edge.terms(4, "small letters a .. z");
        edge.dueFault("LAND 4", 0);
        edge.dueFault("Land 4", 0);
        edge.dueFault("lanD 4", 0);
        edge.dueFault("a", 0);
        edge.dueFault("z", 0);
        // the bytes ahead of a and behind z are TOKENS of their own
        edge.dueFault("land` 4", 4);
        edge.dueFault("land{ 4", 4);
        edge.dueFault("landa 4", 0);
        edge.dueFault("landz 4", 0);
    }

    private void digits() {
        edge.terms(4, "numbers of 1 to 4 digits");
        edge.due("one digit", Lands.of("land 7").count(0), 7);
        edge.due("two digits", Lands.of("land 07").count(0), 7);
        edge.due("three digits", Lands.of("land 007").count(0), 7);
        edge.due("four digits", Lands.of("land 0007").count(0), 7);
        edge.dueFault("land 00007", 5);
        edge.dueFault("weight 00003 1", 7);
        edge.dueFault("weight 3 00001", 9);
        edge.dueFault("cost 3 00000", 7);
        edge.dueFault("case 0000 00000 1", 10);
        edge.dueFault("case 0000 0 00001", 12);
        edge.dueFault(Lands.many(1), "pardon 0000", NONE);
        edge.dueFault(Lands.many(1), "pardon 00000", 7);
        edge.dueFault(Lands.many(1), "drop 00000", 5);
        // more digits than a number of the machine can hold, and one that wraps around to 4
        edge.dueFault("land 99999999999999999999", 5);
        edge.dueFault("land 4294967300", 5);
        // the bytes ahead of 0 and behind 9 are TOKENS of their own
        edge.dueFault("land 4/", 6);
        edge.dueFault("land 4:", 6);
        edge.dueFault("land /", 5);
        edge.dueFault("land -4", 5);
        edge.dueFault("land +4", 5);
    }

    private void blanks() {
        edge.terms(4, "blanks (32) between.)");
        edge.dueFault("land 4", NONE);
        edge.dueFault("land  4", NONE);
        edge.dueFault("case 0000 0 0", NONE);
        edge.dueFault("case 00000 0", 5);
        int[] others = {0, 9, 10, 13, 31, 33, 127, 128, 160, 255};
        for (int other : others) {
            edge.dueFault("land" + (char) other + "4", 4);
            edge.dueFault("land 4" + (char) other, 6);
        }
        edge.dueFault("   ", 3);
    }

    private void faults() {
        firstToken();
        numbersOutOfBounds();
        endTooSoon();
    }

    private void firstToken() {
        edge.terms(4, "A FAULT is at the first TOKEN (a row of small letters, a row of digits, any other byte) "
                + "that cannot stand there");
        edge.dueFault("land 11;weight 99 99", 5);
        edge.dueFault("cost 4 10", 5);
        edge.dueFault("cost 3 10;x", 7);
        edge.dueFault("land land", 5);
        edge.dueFault("4 land", 0);
        edge.dueFault("land four", 5);
        edge.dueFault("land  ::4", 6);
        edge.dueFault("case ;", 5);
        edge.dueFault("case 0000 0 1 1;x", 14);
        edge.dueFault("case 0110x", 9);
    }

    private void numbersOutOfBounds() {
        edge.terms(4, "(a number out of its bounds, of more digits, a row of figures that is none such, also)");
        edge.dueFault("land 0", 5);
        edge.dueFault("land 0000", 5);
        edge.dueFault("land 11", 5);
        edge.dueFault("weight 4 0", 7);
        edge.dueFault("weight 0 10", 9);
        edge.dueFault("cost 4 0", 5);
        edge.dueFault("cost 0 10", 7);
        edge.dueFault("case 0000 4 0", 10);
        edge.dueFault("case 0000 0 10000", 12);
        edge.dueFault("land 00001", 5);
        edge.dueFault("case 0003 0 1", 5);
        edge.dueFault(Lands.many(3), "pardon 3", 7);
        edge.dueFault(Lands.many(3), "drop 3", 5);
    }

    private void endTooSoon() {
        edge.terms(4, "or at the end, if it comes too soon.");
        String[] tooSoon = {"", " ", "land", "land ", "weight", "weight 0", "weight 0 ", "cost", "cost 0", "case",
            "case 0000", "case 0000 0", "case 0000 0   ", "pardon", "drop", "land 4;", "land 4; ", "land 4;cost",
            "land 4;cost 0"};
        for (String text : tooSoon) {
            edge.dueFault(Lands.many(1), text, text.length());
        }
        LikestCase full = Lands.of("cost 0 1");
        Check.tell(full, "land" + " ".repeat(196));
        edge.due("at the end of 200 bytes", full.fault(), 200);
    }

    // ---- 1: LINES are done

    private void linesAreDone() {
        inTheirOrder();
        nothingIsKept();
    }

    private void inTheirOrder() {
        edge.terms(5, "LINES are done in their order.");
        edge.due("the later WEIGHT", Lands.of("weight 0 2;weight 0 3").point(0, 0), 3);
        edge.due("the later COST", Lands.of("cost 0 3;cost 0 2").point(0, 1), 2);
        edge.due("a COST ahead of land", Lands.of("cost 0 5;land 4").point(0, 1), 1);
        edge.due("a COST behind land", Lands.of("land 4;cost 0 5").point(0, 1), 5);
        LikestCase x = Lands.of("case 0000 1 1;drop 0;case 1111 2 2");
        edge.due("a drop between two cases", x.older(0, 0), 15);
        x = Lands.of("case 0000 1 1;case 1111 2 2;pardon 1;drop 0;pardon 0;case 0000 3 3");
        edge.due("PARDONED ahead of a drop and behind it", x.older(0, 3) * 10 + x.older(1, 3), 10);
        edge.due("the eighth LINE last", Lands.of(Lands.lines("cost 0 4", 7) + ";cost 0 6").point(0, 1), 6);
    }

    private void nothingIsKept() {
        edge.terms(27, "Behind them nothing is kept.");
        LikestCase x = Lands.of(Lands.TWO);
        x.save(0);
        x.save(1);
        edge.due("kept", x.back(0) * 10 + x.back(1), 22);
        Lands.then(x, "cost 0 1");
        edge.due("image 0", x.back(0), NOT);
        edge.due("image 1", x.back(1), NOT);
        edge.due("the CASES stay", x.count(1), 2);
    }

    // ---- 2: JUDGED

    private void judged() {
        likeness();
        likestOrEldest();
        judgedByNone();
        brought();
    }

    private void likeness() {
        edge.terms(9, "LIKENESS of two DEEDS is the WEIGHTS of POINTS that are alike in both, together.");
        LikestCase x = Lands.of("land 10;weight 0 9;weight 1 9;weight 2 9;weight 3 9;weight 4 9;weight 5 9;weight 6 9");
        Lands.then(x, "weight 7 9;weight 8 9;weight 9 9;case 1111111111 0 1");
        edge.due("all POINTS alike, of the greatest WEIGHTS", x.like(1023, 0), 90);
        edge.due("none", x.like(0, 0), 0);
        edge.due("the first one", x.like(1, 0), 9);
        edge.due("the last one", x.like(512, 0), 9);
        edge.due("all but the last one", x.like(511, 0), 81);
        LikestCase weightless = Lands.of("land 2;weight 0 0;weight 1 0;case 10 0 1");
        edge.due("without WEIGHTS, the DEED itself", weightless.like(1, 0), 0);
        LikestCase notSo = Lands.of("case 0000 0 1");
        edge.due("POINTS that are not so in both are alike too", notSo.like(0, 0), 4);
    }

    private void likestOrEldest() {
        edge.terms(8, "A DEED is JUDGED as the CASE to which it is likest, of several by the ELDEST: BY it;");
        LikestCase x = Lands.of("land 3;case 000 1 9;case 011 2 9;case 111 3 8");
        edge.due("likest by one POINT, though it is the youngest", x.judge(6, 1), 1);
        edge.due("of two the lesser YEAR", x.judge(5, 1), 2);
        edge.due("of two of one YEAR the lesser number", x.judge(2, 1), 0);
        edge.due("its JUDGMENT", x.judge(2, 0), 1);
        x = Lands.of("land 3;weight 0 0;weight 1 0;weight 2 0;case 000 1 9;case 111 2 8;case 011 3 8");
        edge.due("without WEIGHTS the ELDEST of all", x.judge(0, 1), 1);
        x = Lands.of("case 0000 1 9999;case 0000 2 0");
        edge.due("of one DEED the ELDER CASE", x.judge(0, 0), 2);
        for (int number = 0; number < 12; number++) {
            edge.due("of twelve the ELDEST", Lands.many(12).judge(number, 1), 0);
        }
    }

    private void judgedByNone() {
        edge.terms(8, "none, if there are no CASES.");
        edge.due("JUDGMENT", new LikestCase().judge(0, 0), NONE);
        edge.due("BY", new LikestCase().judge(0, 1), NONE);
        edge.due("behind the last drop", Lands.of("case 0000 0 1;drop 0").judge(0, 0), NONE);
        edge.due("behind land", Lands.of("case 0000 0 1;land 4").judge(0, 0), NONE);
    }

    private void brought() {
        edge.terms(10, "A DEED that is BROUGHT in a YEAR is a CASE more, JUDGED so (by CASES ahead of it, "
                + "whatever their YEARS).");
        LikestCase x = Lands.of("land 2;case 00 0 10;case 11 3 9999");
        edge.due("in YEAR 0 by a CASE of YEAR 9999", x.bring(3, 0), 3);
        edge.due("a CASE more", x.count(1), 3);
        edge.due("the ELDEST now", x.older(2, 4), 0);
        edge.due("it judges ties", x.judge(1, 1), 2);
        edge.due("a tie goes to it", x.bring(2, 9999), 3);
        edge.due("not BY itself, though it would be the ELDEST", Lands.of(Lands.TWO).bring(1, 0), 0);
    }

    // ---- 2: LEAST CHANGE, SUITS, TURNS

    private void whatOneCanDo() {
        leastChange();
        suitsOfSixPoints();
        suitsOfYear9999();
        anySuits();
        twoSuitsAtMost();
        firstOfSeveralRows();
        turnsWhateverIsBrought();
        moreThanTwelve();
    }

    private void leastChange() {
        edge.terms(13, "COSTS of POINTS that are unlike, together, are least; of several the least number; none.");
        LikestCase x = Lands.of(Lands.FIVE);
        edge.due("nothing to change", x.least(31, 3, 0), 0);
        edge.due("of several the least number", x.least(0, 3, 1), 7);
        edge.due("none", x.least(0, 2, 1), NONE);
        edge.due("none, without CASES", new LikestCase().least(0, 0, 1), NONE);
        edge.due("DEED 0", Lands.of(MIRRORED).least(3, 3, 1), 0);
        x = Lands.of(Lands.FIVE + ";cost 0 0;cost 1 0;cost 2 0;cost 3 0;cost 4 0");
        edge.due("without COSTS the least number of all", x.least(31, 3, 1), 7);
        edge.due("without COSTS", x.least(0, 3, 0), 0);
        x = Lands.of(Lands.FIVE + ";cost 0 9;cost 1 9;cost 2 9;cost 3 9;cost 4 8");
        edge.due("the greatest COSTS but one", x.least(0, 3, 0), 26);
        edge.due("of several with POINT 4", x.least(0, 3, 1), 19);
    }

    private void suitsOfSixPoints() {
        edge.terms(14, "SUITS (of 6 POINTS at most)");
        edge.due("six POINTS", Lands.wide(6).suits(63, 2, -1), 0);
        edge.refused("POINTS", () -> Lands.wide(7), NOT, (x, i) -> x.suits(0, 2, i), -1, 0, 1);
        edge.refused("POINTS", () -> Lands.wide(10), NOT, (x, i) -> x.suits(0, 2, i), -1);
    }

    private void suitsOfYear9999() {
        edge.terms(14, "each of YEAR 9999");
        // a SUIT that were ELDER than the CASES would win these ties
        LikestCase x = Lands.of("land 2;case 00 0 9999;case 11 3 9999");
        edge.due("of like YEARS the lesser number is ELDER", x.suits(1, 3, -1), NONE);
        x = Lands.of("land 2;case 00 0 9999;case 11 3 1");
        edge.due("an ELDER one keeps ties", x.suits(1, 0, -1), NONE);
    }

    private void anySuits() {
        edge.terms(14, "(any DEEDS), so that a told one is JUDGED as told then");
        LikestCase x = Lands.of("land 6;case 111111 0 1;case 000000 3 2");
        edge.due("two", x.suits(60, 3, -1), 2);
        edge.due("the first", x.suits(60, 3, 0), 4);
        edge.due("the second", x.suits(60, 3, 1), 28);
        x.bring(4, 9999);
        x.bring(28, 9999);
        edge.due("so it is JUDGED as told", x.judge(60, 0), 3);
        LikestCase zero = Lands.of("land 5;case 11100 0 1;case 00011 3 2");
        edge.due("DEED 0 alone", zero.suits(4, 3, -1) * 10 + zero.suits(4, 3, 0), 10);
        zero = Lands.of("land 6;case 111100 0 1;case 000011 3 2");
        edge.due("DEED 0 as the first of two", zero.suits(12, 3, 0) * 10 + zero.suits(12, 3, 1), 4);
        zero = Lands.of("land 6;case 111000 0 1;case 000111 3 2");
        edge.due("DEED 0 as the second of two", zero.suits(4, 3, 0) * 10 + zero.suits(4, 3, 1), 80);
    }

    private void twoSuitsAtMost() {
        edge.terms(14, "the fewest, 2 at most;");
        // POINTS 0; 0, 1; 0 .. 2; 0 .. 3; all weigh 3, 5, 9, 17, 32: each is just nearer to the next than to 0
        LikestCase x = Lands.of("land 6;weight 0 3;weight 1 2;weight 2 4;weight 3 8;weight 4 9;weight 5 6");
        Lands.then(x, "case 000000 0 1;case 111111 3 2");
        edge.due("none for DEED 15, it is won", x.suits(15, 3, -1), 0);
        edge.due("one for DEED 7", x.suits(7, 3, -1), 1);
        edge.due("two for DEED 3", x.suits(3, 3, -1), 2);
        edge.due("three for DEED 1 are too many", x.suits(1, 3, -1), NONE);
        x.bring(15, 9999);
        x.bring(7, 9999);
        x.bring(3, 9999);
        edge.due("though three would win", x.judge(1, 0), 3);
    }

    private void firstOfSeveralRows() {
        edge.terms(14, "of several rows the first (by numbers); none.");
        LikestCase five = Lands.of(Lands.FIVE);
        edge.due("DEED 7, not 11 nor 19", five.suits(3, 3, 0), 7);
        LikestCase six = Lands.of(Lands.SIX);
        edge.due("the first by the first number", six.suits(3, 3, 0), 15);
        edge.due("then by the second: 7, not 11", six.suits(3, 3, 1), 7);
        edge.due("none", six.suits(0, 3, -1), NONE);
        edge.due("none of a JUDGMENT that no CASE has", six.suits(63, 1, -1), NONE);
    }

    private void turnsWhateverIsBrought() {
        edge.terms(15, "TURNS: a DEED that one brings so that, whatever one DEED another one brings then, or none, "
                + "the told one is JUDGED as told: the least; none.");
        LikestCase x = Lands.of(Lands.FIVE);
        edge.due("the least", x.turns(0, 0), 0);
        edge.due("DEED 3 would be lost by 7", x.turns(3, 0), 1);
        edge.due("won by the one DEED that wins", x.turns(3, 3), 7);
        edge.due("none", x.turns(0, 3), NONE);
        LikestCase one = Lands.of("land 1;case 0 0 1;case 1 3 1");
        edge.due("one POINT: its own CASE keeps it", one.turns(1, 3), 0);
        edge.due("one POINT: nothing takes it", one.turns(1, 0), NONE);
        LikestCase zero = Lands.of("land 3;weight 0 2;weight 2 2;case 110 0 1;case 001 3 2");
        edge.due("DEED 0 alone would take it, but behind DEED 2", zero.turns(2, 0), 2);
    }

    private void moreThanTwelve() {
        edge.terms(14, "(SUITS may make more than 12 CASES.)");
        LikestCase x = Lands.of(Lands.SIX);
        for (int i = 0; i < 10; i++) {
            x.bring(63, 3);
        }
        edge.due("twelve CASES", x.count(1), 12);
        edge.due("a thirteenth is not taken", x.bring(0, 0), FULL);
        edge.due("two more", x.suits(3, 3, -1), 2);
        edge.due("two more, the second", x.suits(3, 3, 1), 7);
        edge.due("two more by turns", x.turns(3, 0), 0);
        edge.due("twelve CASES still", x.count(1), 12);
    }

    // ---- 2 and 3: DEAD, KEEP, TURN, ODDS

    private void keptAndTurning() {
        deadCases();
        keepOfEightAndTen();
        keepTheLeastSet();
        turning();
        oddsOfEightPoints();
        oddsByTenths();
        oddsByThemselves();
    }

    private void deadCases() {
        edge.terms(16, "A CASE is DEAD if no DEED is JUDGED BY it.");
        edge.due("no CASES", new LikestCase().dead(), 0);
        edge.due("one CASE", Lands.many(1).dead(), 0);
        edge.due("eleven of twelve", Lands.many(12).dead(), 4094);
        edge.due("one DEED is enough", Lands.of(Lands.TWO).dead(), 0);
        edge.due("one DEED is enough, the first one", Lands.of(MIRRORED).dead(), 0);
        edge.due("the first one, as it is younger", Lands.of("case 0000 0 1;case 0000 0 0").dead(), 1);
    }

    private void keepOfEightAndTen() {
        edge.terms(17, "KEEP (of 8 POINTS and 10 CASES at most)");
        edge.due("eight POINTS", Lands.wide(8).keep(0), 1);
        edge.refused("nine POINTS, what", () -> Lands.wide(9), NOT, (x, what) -> x.keep(what), 0, 1);
        edge.due("ten CASES", Lands.many(10).keep(0), 1);
        edge.refused("eleven CASES, what", () -> Lands.many(11), NOT, (x, what) -> x.keep(what), 0, 1);
        edge.refused("ten POINTS, twelve CASES, what", TermsEdgeTests::wideAndFull, NOT, (x, what) -> x.keep(what), 0);
    }

    private static LikestCase wideAndFull() {
        LikestCase x = Lands.of("land 10;case 0000000000 0 1");
        for (int i = 0; i < 11; i++) {
            x.bring(i, i);
        }
        return x;
    }

    private void keepTheLeastSet() {
        edge.terms(17, "the fewest CASES by which alone all DEEDS are JUDGED (JUDGMENTS) as they are by all; "
                + "the least set (bits).");
        edge.due("none of none", new LikestCase().keep(1), 0);
        edge.due("the first of ten alike", Lands.many(10).keep(1), 1);
        edge.due("JUDGMENTS, not BY: either is enough", Lands.of("case 0000 2 1;case 1111 2 2").keep(1), 1);
        edge.due("all are needed", Lands.of(Lands.TWO).keep(1), 3);
        LikestCase x = Lands.of("land 2;case 00 0 40;case 11 3 20;case 00 0 30");
        edge.due("of two sets of two the least", x.keep(1), 3);
        x = Lands.of("land 1;case 0 0 2;case 0 1 1;case 1 2 1");
        edge.due("two that are not the first two", x.keep(1), 6);
        edge.due("how many", x.keep(0), 2);
        x = Lands.of("land 2;case 10 0 3;case 01 0 3;case 11 3 3;case 00 0 1");
        edge.due("the fewest, though a set of three is less", x.keep(1), 12);
    }

    private void turning() {
        edge.terms(18, "POINTS that TURN a DEED: those by which alone otherwise it would have another JUDGMENT.");
        edge.due("both", Lands.of(Lands.TWO).turning(3), 3);
        edge.due("none: two POINTS would be needed", Lands.of(Lands.TWO).turning(0), 0);
        edge.due("one", Lands.of(Lands.TWO).turning(1), 2);
        LikestCase x = Lands.of("land 10;case 0000000000 0 1;case 0000000001 1 1");
        edge.due("the last POINT, from not so", x.turning(0), 512);
        edge.due("the last POINT, from so", x.turning(1023), 512);
        edge.due("another CASE of the same JUDGMENT", Lands.of("case 0000 1 1;case 1000 1 1").turning(0), 0);
    }

    private void oddsOfEightPoints() {
        edge.terms(19, "some POINTS (8 at most) are not known");
        LikestCase x = Lands.wide(10);
        edge.due("none", x.odds(0, 0, 5, 2, 0), 1);
        edge.due("the first eight", x.odds(0, 255, 5, 2, 0), 1);
        edge.due("the last eight", x.odds(0, 1020, 5, 2, 0), 1);
        edge.refused("a set of nine and ten POINTS", () -> Lands.wide(10), OUTSIDE,
                (y, set) -> y.odds(0, set, 5, 2, 0), 511, 1022, 1023);
    }

    private void oddsByTenths() {
        edge.terms(19, "each is so by p tenths (0 .. 10)");
        LikestCase x = Lands.of(Lands.TWO);
        edge.due("0: it is not so, whatever the DEED says", x.odds(3, 3, 0, 3, 0), 0);
        edge.due("10: it is so", x.odds(0, 3, 10, 3, 0), 1);
        edge.due("1: a hundredth", x.odds(0, 3, 1, 3, 1), 100);
        edge.due("9: 81 hundredths", x.odds(0, 3, 9, 3, 0), 81);
        edge.refused("tenths", Lands::rich, OUTSIDE, (y, p) -> y.odds(0, 1, p, 0, 0), -1, 11, LEAST, MOST);
    }

    private void oddsByThemselves() {
        edge.terms(19, "by itself: how likely a JUDGMENT is.");
        LikestCase x = Lands.of("land 8;case 11111111 3 2;case 01111111 0 1;case 10111111 0 1;case 11011111 0 1"
                + ";case 11101111 0 1;case 11110111 0 1;case 11111011 0 1");
        Lands.then(x, "case 11111101 0 1;case 11111110 0 1");
        edge.due("all eight are so", x.odds(0, 255, 1, 3, 0), 1);
        edge.due("by a tenth each", x.odds(0, 255, 1, 3, 1), 100000000);
        edge.due("or not", x.odds(0, 255, 1, 0, 0), 99999999);
    }

    // ---- 3: FOLLOWS, FORGED, CLEANED, HANG

    private void followed() {
        noElder();
        pardonIsLeftOut();
        cleanedOfTenCases();
        cleanedTheLeastSet();
        hangOfSixPoints();
        hangTheFirst();
    }

    private void noElder() {
        edge.terms(20, "A CASE FOLLOWS if there is no ELDER one, or its DEED is JUDGED by ELDER ones alone as it was");
        edge.due("no CASES", new LikestCase().forged(), 0);
        edge.due("one CASE", Lands.of("case 0000 3 1").forged(), 0);
        edge.due("the ELDEST is the last one", Lands.of("case 0000 3 9999;case 1111 0 0").forged(), 1);
        edge.due("a younger one of the same DEED does not help",
                Lands.of("case 0000 0 1;case 1111 3 2;case 1111 3 3").forged(), 2);
        edge.due("an ELDER one that is likest", Lands.of("case 0000 0 1;case 1111 3 2;case 0111 0 3").forged(), 6);
    }

    private void pardonIsLeftOut() {
        edge.terms(20, "(a PARDON is left out of this: all as they were JUDGED first). FORGED: those that do not "
                + "FOLLOW, by bits.");
        LikestCase x = Lands.of(Lands.TWO + ";case 11 3 30;case 11 0 40");
        edge.due("ahead of it", x.forged(), 10);
        x.pardon(1, true);
        x.pardon(2, true);
        edge.due("behind it", x.forged(), 10);
        edge.due("FREE by a PARDON is JUDGED FREE first", x.bring(3, 50), 0);
        edge.due("which does not FOLLOW", x.forged(), 26);
        edge.due("of twelve the last one", forgedLast().forged(), 2048);
    }

    private static LikestCase forgedLast() {
        return Lands.then(Lands.many(11), "case 1111 2 9999");
    }

    private void cleanedOfTenCases() {
        edge.terms(21, "CLEANED (10 CASES at most)");
        edge.due("ten CASES", Lands.many(10).cleaned(0), 0);
        edge.refused("eleven CASES, what", () -> Lands.many(11), NOT, (x, what) -> x.cleaned(what), 0, 1);
        edge.refused("twelve CASES, what", () -> Lands.many(12), NOT, (x, what) -> x.cleaned(what), 0, 1);
        edge.due("ten POINTS are not too many", Lands.wide(10).cleaned(0), 0);
    }

    private void cleanedTheLeastSet() {
        edge.terms(21, "the fewest CASES that have to be left out so that all others FOLLOW (by those that are left); "
                + "the least set.");
        edge.due("none of none", new LikestCase().cleaned(1), 0);
        edge.due("none of one", Lands.many(1).cleaned(1), 0);
        edge.due("of two that are unlike the least set", Lands.of(Lands.TWO).cleaned(1), 1);
        LikestCase x = Lands.of("case 0000 1 1;case 0000 0 2;case 0000 0 3;case 0000 1 4");
        edge.due("of two sets of two the least", x.cleaned(1), 6);
        x = Lands.of("case 0000 1 1;case 0000 0 2;case 0000 0 3");
        edge.due("the fewest, though the two others do not FOLLOW", x.cleaned(1), 1);
        edge.due("how many", x.cleaned(0), 1);
        x = Lands.of("case 0000 1 1;case 0000 1 2;case 0000 0 3");
        edge.due("the fewest, though a set of two is less", x.cleaned(1), 4);
        x = Lands.of("case 0000 1 3;case 0000 0 1;case 0000 0 2");
        edge.due("the first one, as the youngest", x.cleaned(1), 1);
    }

    private void hangOfSixPoints() {
        edge.terms(22, "HANG (of 6 POINTS at most)");
        edge.due("six POINTS", Lands.wide(6).hang(-1), 729);
        edge.refused("seven POINTS", () -> Lands.wide(7), NOT, (x, i) -> x.hang(i), -1, 0, 6);
        edge.refused("ten POINTS", () -> Lands.wide(10), NOT, (x, i) -> x.hang(i), -1, 9);
    }

    private void hangTheFirst() {
        edge.terms(22, "of all WEIGHTS 0 .. 2 for the POINTS those by which all CASES FOLLOW: how many, the first "
                + "(by POINT 0's, then 1's ..).");
        edge.due("three WEIGHTS of one POINT", Lands.wide(1).hang(-1), 3);
        edge.due("81 of four POINTS", new LikestCase().hang(-1), 81);
        for (int p = 0; p < 6; p++) {
            edge.due("the first of all, POINT " + p, Lands.wide(6).hang(p), 0);
        }
        edge.due("none", Lands.of(Lands.TWO).hang(-1), 0);
        edge.due("none, POINT 1", Lands.of(Lands.TWO).hang(1), NONE);
        edge.due("WEIGHTS of the land do not count", Lands.of("weight 0 9;case 0000 1 1;case 1000 1 2").hang(0), 0);
    }

    // ---- 3: BORDER, PARTS, FREES

    private void landOfAllDeeds() {
        border();
        parts();
        frees();
    }

    private void border() {
        edge.terms(23, "BORDER: pairs of DEEDS with one POINT unlike that have unlike JUDGMENTS: how many.");
        edge.due("none", Lands.wide(10).border(), 0);
        edge.due("one pair", Lands.of("land 1;case 0 0 1;case 1 3 1").border(), 1);
        edge.due("each pair once", Lands.of(Lands.TWO).border(), 2);
        LikestCase x = Lands.of("land 2;case 00 0 1;case 10 1 1;case 01 2 1;case 11 3 1");
        edge.due("all pairs of two POINTS", x.border(), 4);
        edge.due("CASES that are unlike, of one JUDGMENT", Lands.of("case 0000 1 1;case 1111 1 1").border(), 0);
    }

    private void parts() {
        edge.terms(24, "within each of which one comes from one to another by one POINT at a time: how many PARTS, "
                + "how many DEEDS the greatest has.");
        LikestCase whole = Lands.wide(10);
        edge.due("the whole land is one", whole.parts(2, 0), 1);
        edge.due("1024 DEEDS", whole.parts(2, 1), 1024);
        LikestCase corners = Lands.of("land 2;case 00 0 1;case 11 0 1;case 10 1 1;case 01 1 1");
        edge.due("two POINTS at a time is no way", corners.parts(1, 0), 2);
        edge.due("DEEDS of one", corners.parts(1, 1), 1);
        LikestCase first = Lands.of(MIRRORED);
        edge.due("DEED 0 alone is one", first.parts(3, 0) * 10 + first.parts(3, 1), 11);
        edge.due("from DEED 1 by DEED 3 to DEED 2", first.parts(0, 0) * 10 + first.parts(0, 1), 13);
        edge.due("none", corners.parts(3, 0), 0);
        edge.due("no greatest", corners.parts(3, 1), 0);
    }

    private void frees() {
        edge.terms(25, "A PARDON of a CASE FREES DEEDS that are not JUDGED FREE now and would be, if it were PARDONED: "
                + "how many.");
        edge.due("all", Lands.wide(10).frees(0), 1024);
        edge.due("those BY it alone", Lands.of(Lands.FIVE).frees(1), 16);
        edge.due("FREE already", Lands.of(Lands.FIVE).frees(0), 0);
        edge.due("PARDONED already", Lands.of(Lands.FIVE + ";pardon 1").frees(1), 0);
        edge.due("a DEAD one", Lands.many(12).frees(11), 0);
    }

    // ---- what is refused, and how parts are told

    private void refusedInOrder() {
        unknownAheadOfOutside();
        unknownAheadOfNot();
        outsideAheadOfNot();
        outsideAheadOfFull();
    }

    private void unknownAheadOfOutside() {
        edge.terms(6, REFUSED);
        edge.refused("UNKNOWN, not OUTSIDE: what", Lands::rich, UNKNOWN, (x, what) -> x.point(3, what), 2, -1);
        edge.terms(7, REFUSED);
        edge.refused("UNKNOWN, not OUTSIDE: what", Lands::rich, UNKNOWN, (x, what) -> x.older(4, what), 5, -1);
        edge.terms(9, REFUSED);
        edge.refused("UNKNOWN, not OUTSIDE: DEED", Lands::rich, UNKNOWN, (x, deed) -> x.like(deed, 4), 8, -1);
        edge.terms(12, REFUSED);
        edge.refused("UNKNOWN, not OUTSIDE: JUDGMENT", Lands::rich, UNKNOWN, (x, j) -> x.deeds(j, 4), 4, -1);
    }

    private void unknownAheadOfNot() {
        edge.terms(22, REFUSED);
        edge.refused("UNKNOWN, not NOT: i", () -> Lands.wide(7), UNKNOWN, (x, i) -> x.hang(i), 7, -2);
        edge.terms(27, REFUSED);
        edge.refused("UNKNOWN, not NOT: image", LikestCase::new, UNKNOWN, (x, image) -> x.back(image), 2, -1);
    }

    private void outsideAheadOfNot() {
        edge.terms(10, REFUSED);
        edge.refused("OUTSIDE, not NOT: DEED", Lands::withoutCases, OUTSIDE, (x, deed) -> x.bring(deed, 0), 16, -1);
        edge.refused("OUTSIDE, not NOT: YEAR", Lands::withoutCases, OUTSIDE, (x, year) -> x.bring(0, year), 10000, -1);
        edge.terms(14, REFUSED);
        edge.refused("OUTSIDE, not NOT: DEED", () -> Lands.wide(7), OUTSIDE, (x, deed) -> x.suits(deed, 0, 0), 128);
        edge.refused("OUTSIDE, not NOT: JUDGMENT", () -> Lands.wide(7), OUTSIDE, (x, j) -> x.suits(0, j, 0), 4);
        edge.refused("OUTSIDE, not NOT: i", Lands::withoutCases, OUTSIDE, (x, i) -> x.suits(0, 0, i), -2);
        edge.terms(15, REFUSED);
        edge.refused("OUTSIDE, not NOT: DEED", () -> Lands.wide(7), OUTSIDE, (x, deed) -> x.turns(deed, 0), 128);
        edge.refused("OUTSIDE, not NOT: JUDGMENT", Lands::withoutCases, OUTSIDE, (x, j) -> x.turns(0, j), 4);
        edge.terms(17, REFUSED);
        edge.refused("OUTSIDE, not NOT: what", () -> Lands.many(11), OUTSIDE, (x, what) -> x.keep(what), 2, -1);
        edge.refused("OUTSIDE, not NOT: what", () -> Lands.wide(9), OUTSIDE, (x, what) -> x.keep(what), 2, -1);
        edge.terms(18, REFUSED);
        edge.refused("OUTSIDE, not NOT: DEED", Lands::withoutCases, OUTSIDE, (x, deed) -> x.turning(deed), 16, -1);
        edge.terms(19, REFUSED);
        edge.refused("OUTSIDE, not NOT: DEED", Lands::withoutCases, OUTSIDE, (x, d) -> x.odds(d, 0, 0, 0, 0), 16);
        edge.refused("OUTSIDE, not NOT: set", Lands::withoutCases, OUTSIDE, (x, set) -> x.odds(0, set, 0, 0, 0), 16);
        edge.refused("OUTSIDE, not NOT: p", Lands::withoutCases, OUTSIDE, (x, p) -> x.odds(0, 0, p, 0, 0), 11);
        edge.refused("OUTSIDE, not NOT: JUDGMENT", Lands::withoutCases, OUTSIDE, (x, j) -> x.odds(0, 0, 0, j, 0), 4);
        edge.refused("OUTSIDE, not NOT: part", Lands::withoutCases, OUTSIDE, (x, part) -> x.odds(0, 0, 0, 0, part), 2);
        edge.terms(21, REFUSED);
        edge.refused("OUTSIDE, not NOT: what", () -> Lands.many(11), OUTSIDE, (x, what) -> x.cleaned(what), 2, -1);
    }

    private void outsideAheadOfFull() {
        edge.terms(2, REFUSED);
        edge.refused("OUTSIDE, not FULL: n", TermsEdgeTests::fullText, OUTSIDE, (x, n) -> x.write(0, n), 9, 0, -1);
        edge.terms(10, REFUSED);
        edge.refused("OUTSIDE, not FULL: DEED", () -> Lands.many(12), OUTSIDE, (x, deed) -> x.bring(deed, 0), 16, -1);
        edge.refused("OUTSIDE, not FULL: YEAR", () -> Lands.many(12), OUTSIDE, (x, year) -> x.bring(0, year), 10000, -1);
    }

    private static LikestCase fullText() {
        LikestCase x = Lands.of(Lands.TWO);
        Check.tell(x, " ".repeat(200));
        return x;
    }

    private void lowestTerms() {
        edge.terms(19, "Parts are told in lowest terms: above (part 0), below (1).");
        LikestCase x = Lands.of(Lands.TWO);
        edge.due("9 of 100 above", x.odds(0, 3, 3, 3, 0), 9);
        edge.due("9 of 100 below", x.odds(0, 3, 3, 3, 1), 100);
        edge.due("4 of 100 above", x.odds(0, 3, 2, 3, 0), 1);
        edge.due("4 of 100 below", x.odds(0, 3, 2, 3, 1), 25);
        edge.due("never, above", x.odds(0, 3, 0, 3, 0), 0);
        edge.due("never, below", x.odds(0, 3, 0, 3, 1), 1);
        edge.due("surely, above", x.odds(0, 3, 10, 3, 0), 1);
        edge.due("surely, below", x.odds(0, 3, 10, 3, 1), 1);
        edge.due("surely, of all POINTS known, below", x.odds(3, 0, 7, 3, 1), 1);
    }

    private void fiveHundredAndTwelveCalls() {
        edge.whatItIs(28, "An object is used for at most 512 calls after it has been made");
        LikestCase x = new LikestCase();
        int calls = 0;
        for (int i = 0; i < 100; i++) {
            x.write(0x2020202020202020L, 8);
            x.erase();
            x.back(0);
            x.bring(0, 0);
            x.keep(0);
            calls += 5;
        }
        Check.tell(x, "case 0000 1 1");
        edge.due("the 503rd call", x.land(), 1);
        calls += 3;
        for (int i = calls; i < 510; i++) {
            x.bring(15, 1);
        }
        edge.due("the 511th call", x.count(1), 8);
        edge.due("the 512th call", x.suits(0, 1, -1), 0);
    }
}
