/** A test for each promise of the document: ordinary inputs, the edges it names, wrong inputs. */
public final class PromiseTests {
    private static final int NONE = -1, UNKNOWN = -2, OUTSIDE = -3, NOT = -4, FULL = -5;
    /** Two POINTS: DEEDS 0, 1, 2 are FREE by CASE 0, DEED 3 ROPE by CASE 1. */
    private static final String TWO = "land 2;case 00 0 10;case 11 3 20";
    /** Five POINTS: DEEDS of three POINTS and more are ROPE by CASE 1, others FREE by CASE 0. */
    private static final String FIVE = "land 5;case 00000 0 1;case 11111 3 2";
    private static final Check CHECK = new Check();

    public static void main(String[] args) {
        newObject();
        write();
        erase();
        faultOfWords();
        faultOfNumbers();
        faultOfFigures();
        faultOfStateBehindLines();
        faultOfLines();
        land();
        landJudgesAnew();
        landIsRefused();
        point();
        older();
        judge();
        like();
        bring();
        pardon();
        deeds();
        least();
        suits();
        suitsOfTwelveCases();
        turns();
        dead();
        keep();
        turning();
        odds();
        forged();
        cleaned();
        hang();
        border();
        parts();
        frees();
        save();
        back();
        count();
        CHECK.end("PromiseTests");
    }

    private static void due(String call, long got, long want) {
        CHECK.due(call, got, want);
    }

    private static int faultOf(LikestCase x, String text) {
        x.erase();
        Check.tell(x, text);
        return x.fault();
    }

    private static void dueFault(String text, int place) {
        due("4 fault of '" + text + "'", faultOf(new LikestCase(), text), place);
    }

    private static String repeat(String line, int times) {
        StringBuilder all = new StringBuilder(line);
        for (int i = 1; i < times; i++) {
            all.append(';').append(line);
        }
        return all.toString();
    }

    /** Four POINTS and so many CASES, all of DEED 0, FREE, of YEARS 1, 2 .. */
    private static LikestCase manyCases(int many) {
        LikestCase x = Check.landOf("case 0000 0 1");
        for (int i = 1; i < many; i++) {
            x.bring(0, i + 1);
        }
        return x;
    }

    private static void newObject() {
        LikestCase x = new LikestCase();
        due("1 POINTS", x.count(0), 4);
        due("1 CASES", x.count(1), 0);
        due("1 bytes", x.count(2), 0);
        due("1 WEIGHTS together", x.count(3), 4);
        for (int p = 0; p < 4; p++) {
            due("1 WEIGHT " + p, x.point(p, 0), 1);
            due("1 COST " + p, x.point(p, 1), 1);
        }
        due("1 no image 0", x.back(0), NOT);
        due("1 no image 1", x.back(1), NOT);
        due("1 the constants", LikestCase.NONE * 10000 + LikestCase.UNKNOWN * 1000
                + LikestCase.OUTSIDE * 100 + LikestCase.NOT * 10 + LikestCase.FULL, -12345);
    }

    private static void write() {
        LikestCase x = new LikestCase();
        due("2 n 0", x.write(65, 0), OUTSIDE);
        due("2 n 9", x.write(65, 9), OUTSIDE);
        due("2 n -1", x.write(65, -1), OUTSIDE);
        due("2 nothing was written", x.count(2), 0);
        due("2 one byte", x.write(0x6c, 1), 1);
        due("2 seven bytes", x.write(0x3420646e61L, 5), 6);
        due("2 read as 'land 4'", x.fault(), NONE);
        due("2 eight bytes, the highest too", x.write(-1L, 8), 14);
        due("2 bytes 255 are a fault", x.fault(), 6);
        for (int i = 0; i < 23; i++) {
            x.write(0, 8);
        }
        due("2 198 bytes", x.count(2), 198);
        due("2 three more", x.write(0, 3), FULL);
        due("2 as many as before", x.count(2), 198);
        due("2 two more", x.write(0, 2), 200);
        due("2 one more", x.write(0, 1), FULL);
        due("2 OUTSIDE ahead of FULL", x.write(0, 9), OUTSIDE);
        due("2 200 bytes", x.erase(), 200);
        Check.tell(x, "weight 3 7");
        due("2 bytes above n are left out", x.write(0x5858583bL, 1), 11);
        due("2 so it is just a ;", x.fault(), 11);
    }

    private static void erase() {
        LikestCase x = new LikestCase();
        due("3 empty", x.erase(), 0);
        Check.tell(x, "land 7");
        due("3 six bytes", x.erase(), 6);
        due("3 empty again", x.count(2), 0);
        due("3 nothing was done", x.count(0), 4);
        Check.tell(x, "cost 0 2");
        due("3 a text behind it", x.land(), 1);
        Check.tell(x, "cost 0 1");
        x.erase();
        due("3 what was erased is not read: no number", faultOf(x, "cost 0 "), 7);
        due("3 what was erased is not read: no word", faultOf(x, ""), 0);
        due("3 what was erased is not read: one figure", faultOf(x, "case 1111 0 2"), NONE);
        due("3 what was erased is not read: three figures", faultOf(x, "case 111"), 5);
    }

    private static void faultOfWords() {
        dueFault("", 0);
        dueFault("   ", 3);
        dueFault("lan 4", 0);
        dueFault("lands 4", 0);
        dueFault("Land 4", 0);
        dueFault("4", 0);
        dueFault(";", 0);
        dueFault("land", 4);
        dueFault("land  ", 6);
        dueFault("land 4", NONE);
        dueFault("  land   4  ", NONE);
        dueFault("land four", 5);
        dueFault("land -4", 5);
        dueFault("land 4.", 6);
        dueFault("land\t4", 4);
        dueFault("land land 4", 5);
        dueFault("cost 1 1 cost 1 1", 9);
        dueFault("land;", 4);
        dueFault("land 4 ; cost 0 1", NONE);
        dueFault("land 4:cost 0 1", 6);
        // a row of letters and a row of digits are two TOKENS with or without a blank
        dueFault("land4", NONE);
    }

    private static void faultOfNumbers() {
        dueFault("land 0", 5);
        dueFault("land 1", NONE);
        dueFault("land 10", NONE);
        dueFault("land 11", 5);
        dueFault("land 0010", NONE);
        dueFault("land 00010", 5);
        dueFault("weight 3 9", NONE);
        dueFault("weight 4 9", 7);
        dueFault("weight 3 10", 9);
        dueFault("weight 3", 8);
        dueFault("cost 0 0", NONE);
        dueFault("cost 4 0", 5);
        dueFault("cost 0 10", 7);
        dueFault("cost 00000 0", 5);
        dueFault("cost 0 0 0", 9);
        dueFault("case 0000 3 9999", NONE);
        dueFault("case 0000 4 9999", 10);
        dueFault("case 0000 3 10000", 12);
        dueFault("case 0000 3 99999999999999", 12);
        dueFault("case 0000 3", 11);
        dueFault("case 0000", 9);
        dueFault("case 0000 0 0 0", 14);
    }

    private static void faultOfFigures() {
        dueFault("case", 4);
        dueFault("case 000 0 1", 5);
        dueFault("case 00000 0 1", 5);
        dueFault("case 0002 0 1", 5);
        dueFault("case 9000 0 1", 5);
        dueFault("case 00 00 0 1", 5);
        dueFault("case abcd 0 1", 5);
        dueFault("case x", 5);
        dueFault("land 10;case 1111111111 0 1", NONE);
        dueFault("land 10;case 1111111121 0 1", 13);
        dueFault("land 10;case 11111111111 0 1", 13);
        dueFault("land 1;case 1 0 1", NONE);
        dueFault("land 1;case 11 0 1", 12);
    }

    private static void faultOfStateBehindLines() {
        dueFault("pardon 0", 7);
        dueFault("drop 0", 5);
        dueFault("pardon", 6);
        dueFault("case 0000 0 1;pardon 0;drop 0", NONE);
        dueFault("case 0000 0 1;pardon 1", 21);
        dueFault("case 0000 0 1;drop 0;pardon 0", 28);
        dueFault("case 0000 0 1;pardon 0;pardon 0", NONE);
        dueFault("case 0000 0 1;land 4;drop 0", 26);
        dueFault("land 2;weight 2 1", 14);
        dueFault("land 6;weight 5 1", NONE);
        dueFault("land 2;case 0000 0 1", 12);
        LikestCase x = manyCases(12);
        due("4 a thirteenth", faultOf(x, "case 0000 0 1"), 0);
        due("4 a thirteenth, whatever stands behind", faultOf(x, "case x"), 0);
        due("4 a thirteenth behind a drop", faultOf(x, "drop 11;case 0000 0 1"), NONE);
        due("4 a fourteenth behind a drop", faultOf(x, "drop 11;case 0000 0 1;case 0000 0 1"), 22);
        due("4 behind a land", faultOf(x, "land 4;case 0000 0 1"), NONE);
        due("4 CASE 11 is there", faultOf(x, "pardon 11"), NONE);
        due("4 CASE 12 is not", faultOf(x, "pardon 12"), 7);
        due("4 nothing was done", x.older(11, 3), 0);
    }

    private static void faultOfLines() {
        dueFault("land 4;", 7);
        dueFault("land 4; ", 8);
        dueFault("land 4;;land 4", 7);
        dueFault(";land 4", 0);
        dueFault(repeat("cost 0 1", 8), NONE);
        dueFault(repeat("cost 0 1", 9), 71);
        dueFault(repeat("cost 0 1", 8) + ";", 71);
        dueFault(repeat("cost 0 1", 8) + "x", 71);
        dueFault(repeat("cost 0 1", 7) + ";cost 4 1", 68);
    }

    private static void land() {
        LikestCase x = new LikestCase();
        Check.tell(x, "case 1000 2 7;weight 1 5;cost 2 0;case 0011 3 6;pardon 1");
        due("5 five LINES", x.land(), 5);
        due("5 THE TEXT is empty", x.count(2), 0);
        due("5 two CASES", x.count(1), 2);
        due("5 POINT 0 is the first figure", x.older(0, 0), 1);
        due("5 POINTS 2, 3", x.older(1, 0), 12);
        due("5 pardoned", x.older(1, 3), 1);
        due("5 the other one not", x.older(0, 3), 0);
        due("5 WEIGHT", x.point(1, 0), 5);
        due("5 COST", x.point(2, 1), 0);
        due("5 its WEIGHT is not changed", x.point(2, 0), 1);
        Check.tell(x, "case 1111 1 8;drop 0;case 0000 0 9;pardon 1");
        due("5 four LINES", x.land(), 4);
        due("5 three CASES", x.count(1), 3);
        due("5 a number less", x.older(0, 0), 12);
        due("5 a number less, pardoned still", x.older(0, 3), 1);
        due("5 a number less, the next", x.older(1, 0), 15);
        due("5 pardoned by its new number", x.older(1, 3), 1);
        due("5 a new CASE is not pardoned", x.older(2, 3), 0);
        due("5 WEIGHTS stay from text to text", x.count(3), 8);
        Check.tell(x, "land 10;weight 9 9");
        due("5 land", x.land(), 2);
        due("5 ten POINTS", x.count(0), 10);
        due("5 no CASES", x.count(1), 0);
        due("5 WEIGHTS as at first, but one", x.count(3), 18);
        due("5 COSTS as at first", x.point(2, 1), 1);
        Check.tell(x, "case 0000000000 1 1;land 1;cost 0 9");
        due("5 land again", x.land(), 3);
        due("5 one POINT", x.count(0), 1);
        due("5 no CASES behind a land", x.count(1), 0);
        due("5 one WEIGHT", x.count(3), 1);
        x = Check.landOf("case 0000 1 5;pardon 0;drop 0;case 1111 1 5");
        due("5 a new CASE at the number of one that was PARDONED", x.older(0, 3), 0);
        x = Check.landOf("case 0000 1 1;case 1111 2 3;case 1100 3 2;drop 0");
        due("5 ELDER ones behind a drop", x.older(0, 4) * 10 + x.older(1, 4), 10);
    }

    /** What was JUDGED ahead of a text is not taken for what is JUDGED behind it. */
    private static void landJudgesAnew() {
        LikestCase x = Check.landOf(TWO);
        due("5 ROPE", x.deeds(3, -1), 1);
        Check.tell(x, "weight 0 0");
        x.land();
        due("5 ROPE behind a WEIGHT", x.deeds(3, -1), 2);
        Check.tell(x, "case 01 3 0");
        x.land();
        due("5 ROPE behind a case", x.deeds(3, -1), 2);
        due("5 BY it", x.deeds(3, 2), 2);
        Check.tell(x, "drop 0");
        x.land();
        due("5 ROPE behind a drop", x.deeds(3, -1), 4);
        Check.tell(x, "pardon 1");
        x.land();
        due("5 ROPE behind a pardon", x.deeds(3, -1), 0);
        Check.tell(x, "land 3");
        x.land();
        due("5 FREE behind a land", x.deeds(0, -1), 0);
    }

    private static void landIsRefused() {
        LikestCase x = Check.landOf(TWO);
        x.save(0);
        due("5 an empty text", x.land(), NOT);
        Check.tell(x, "land 3;weight 3 3");
        due("5 a FAULT in the second LINE", x.land(), NOT);
        due("5 nothing changed: POINTS", x.count(0), 2);
        due("5 nothing changed: CASES", x.count(1), 2);
        due("5 nothing changed: bytes", x.count(2), 17);
        due("5 nothing changed: the image", x.back(0), 2);
    }

    private static void point() {
        LikestCase x = Check.landOf("land 3;weight 2 0;cost 2 9;weight 0 9;cost 0 0");
        due("6 WEIGHT 0", x.point(0, 0), 9);
        due("6 COST 0", x.point(0, 1), 0);
        due("6 WEIGHT 1", x.point(1, 0), 1);
        due("6 COST 1", x.point(1, 1), 1);
        due("6 WEIGHT 2", x.point(2, 0), 0);
        due("6 COST 2", x.point(2, 1), 9);
        due("6 no POINT 3", x.point(3, 0), UNKNOWN);
        due("6 no POINT -1", x.point(-1, 1), UNKNOWN);
        due("6 what 2", x.point(0, 2), OUTSIDE);
        due("6 what -1", x.point(0, -1), OUTSIDE);
        due("6 UNKNOWN ahead of OUTSIDE", x.point(3, 2), UNKNOWN);
    }

    private static void older() {
        LikestCase x = Check.landOf("case 0100 2 50;case 0010 1 50;case 0001 3 0;case 1111 0 9999");
        due("7 DEED", x.older(0, 0), 2);
        due("7 JUDGMENT", x.older(0, 1), 2);
        due("7 YEAR", x.older(0, 2), 50);
        due("7 not PARDONED", x.older(0, 3), 0);
        due("7 ELDER than 0: the one of YEAR 0", x.older(0, 4), 1);
        due("7 ELDER than 1: of like YEARS the lesser number too", x.older(1, 4), 2);
        due("7 ELDER than 2", x.older(2, 4), 0);
        due("7 ELDER than 3", x.older(3, 4), 3);
        due("7 YEAR 9999", x.older(3, 2), 9999);
        x.pardon(0, true);
        due("7 PARDONED", x.older(0, 3), 1);
        due("7 FREE then", x.older(0, 1), 0);
        due("7 no CASE 4", x.older(4, 0), UNKNOWN);
        due("7 no CASE -1", x.older(-1, 0), UNKNOWN);
        due("7 what 5", x.older(3, 5), OUTSIDE);
        due("7 what -1", x.older(3, -1), OUTSIDE);
        due("7 UNKNOWN ahead of OUTSIDE", x.older(4, 5), UNKNOWN);
    }

    private static void judge() {
        LikestCase x = new LikestCase();
        due("8 no CASES", x.judge(15, 0), NONE);
        due("8 no CASES, BY", x.judge(15, 1), NONE);
        due("8 no CASES, LIKENESS", x.judge(15, 2), NONE);
        due("8 OUTSIDE ahead of NONE", x.judge(16, 0), OUTSIDE);
        x = Check.landOf("land 3;weight 0 5;case 000 1 9;case 111 2 9;case 110 3 3");
        due("8 its own CASE", x.judge(7, 0), 2);
        due("8 BY its own CASE", x.judge(7, 1), 1);
        due("8 LIKENESS to its own CASE", x.judge(7, 2), 7);
        due("8 the WEIGHT of POINT 0 tells", x.judge(1, 1), 2);
        due("8 LIKENESS 6", x.judge(1, 2), 6);
        due("8 of like LIKENESS the ELDER one: 5 is likest to 7", x.judge(5, 1), 1);
        due("8 6 is likest to 0", x.judge(6, 1), 0);
        x = Check.landOf("land 2;case 00 1 9;case 11 2 8");
        due("8 a tie to the lesser YEAR", x.judge(1, 1), 1);
        x = Check.landOf("land 2;case 11 1 9;case 00 2 9");
        due("8 a tie of like YEARS to the lesser number", x.judge(1, 1), 0);
        due("8 its JUDGMENT", x.judge(1, 0), 1);
        x.pardon(0, true);
        due("8 a PARDONED one judges FREE", x.judge(1, 0), 0);
        due("8 DEED 4", x.judge(4, 0), OUTSIDE);
        due("8 DEED -1", x.judge(-1, 0), OUTSIDE);
        due("8 what 3", x.judge(0, 3), OUTSIDE);
        due("8 what -1", x.judge(0, -1), OUTSIDE);
    }

    private static void like() {
        LikestCase x = Check.landOf("land 3;weight 0 5;weight 2 3;case 101 0 1");
        due("9 all POINTS", x.like(5, 0), 9);
        due("9 none", x.like(2, 0), 0);
        due("9 POINT 0 alone", x.like(3, 0), 5);
        due("9 POINT 1 alone, not so in both", x.like(0, 0), 1);
        due("9 POINTS 1, 2", x.like(4, 0), 4);
        due("9 no CASE 1", x.like(0, 1), UNKNOWN);
        due("9 no CASE -1", x.like(0, -1), UNKNOWN);
        due("9 DEED 8", x.like(8, 0), OUTSIDE);
        due("9 DEED -1", x.like(-1, 0), OUTSIDE);
        due("9 UNKNOWN ahead of OUTSIDE", x.like(8, 1), UNKNOWN);
    }

    private static void bring() {
        LikestCase x = new LikestCase();
        due("10 no CASES", x.bring(0, 0), NOT);
        due("10 OUTSIDE ahead of NOT", x.bring(16, 0), OUTSIDE);
        x = Check.landOf(TWO);
        due("10 as the likest", x.bring(3, 5), 3);
        due("10 a CASE more", x.count(1), 3);
        due("10 its DEED", x.older(2, 0), 3);
        due("10 its JUDGMENT", x.older(2, 1), 3);
        due("10 its YEAR", x.older(2, 2), 5);
        due("10 it is not PARDONED", x.older(2, 3), 0);
        due("10 it judges, being the ELDEST", x.judge(1, 1), 2);
        due("10 the next one as this", x.bring(1, 9999), 3);
        due("10 in YEAR 0", x.bring(2, 0), 3);
        x.pardon(2, true);
        due("10 FREE as a PARDONED one", x.bring(3, 9999), 0);
        x.pardon(2, false);
        due("10 FREE still", x.older(5, 1), 0);
        due("10 YEAR 10000", x.bring(0, 10000), OUTSIDE);
        due("10 YEAR -1", x.bring(0, -1), OUTSIDE);
        due("10 DEED 4", x.bring(4, 1), OUTSIDE);
        due("10 DEED -1", x.bring(-1, 1), OUTSIDE);
        due("10 nothing changed", x.count(1), 6);
        x = manyCases(11);
        due("10 a twelfth", x.bring(1, 1), 0);
        due("10 a thirteenth", x.bring(1, 1), FULL);
        due("10 OUTSIDE ahead of FULL", x.bring(16, 1), OUTSIDE);
        due("10 twelve", x.count(1), 12);
    }

    private static void pardon() {
        LikestCase x = Check.landOf(TWO);
        due("11 FREE then", x.pardon(1, true), 0);
        due("11 PARDONED", x.older(1, 3), 1);
        due("11 DEEDS are JUDGED so at once", x.deeds(3, -1), 0);
        due("11 PARDONED again", x.pardon(1, true), 0);
        due("11 not any more", x.pardon(1, false), 3);
        due("11 not PARDONED", x.older(1, 3), 0);
        due("11 DEEDS are JUDGED as before", x.deeds(3, -1), 1);
        due("11 a FREE one", x.pardon(0, true), 0);
        due("11 a FREE one, not any more", x.pardon(0, false), 0);
        due("11 no CASE 2", x.pardon(2, true), UNKNOWN);
        due("11 no CASE -1", x.pardon(-1, false), UNKNOWN);
    }

    private static void deeds() {
        due("12 no CASES", new LikestCase().deeds(0, -1), 0);
        LikestCase x = Check.landOf(TWO);
        due("12 FREE", x.deeds(0, -1), 3);
        due("12 FINE", x.deeds(1, -1), 0);
        due("12 ROPE", x.deeds(3, -1), 1);
        due("12 FREE BY 0", x.deeds(0, 0), 3);
        due("12 FREE BY 1", x.deeds(0, 1), 0);
        due("12 ROPE BY 1", x.deeds(3, 1), 1);
        x.bring(1, 0);
        due("12 FREE behind a new CASE", x.deeds(0, -1), 3);
        due("12 FREE BY 0: DEEDS 0, 2", x.deeds(0, 0), 2);
        due("12 FREE BY 2: DEED 1", x.deeds(0, 2), 1);
        due("12 ROPE BY 1 still", x.deeds(3, 1), 1);
        due("12 no CASE 3", x.deeds(0, 3), UNKNOWN);
        due("12 no CASE -2", x.deeds(0, -2), UNKNOWN);
        due("12 JUDGMENT 4", x.deeds(4, 0), OUTSIDE);
        due("12 JUDGMENT -1", x.deeds(-1, -1), OUTSIDE);
        due("12 UNKNOWN ahead of OUTSIDE", x.deeds(4, 3), UNKNOWN);
    }

    private static void least() {
        due("13 no CASES", new LikestCase().least(0, 0, 0), NONE);
        LikestCase x = Check.landOf(FIVE + ";cost 0 3;cost 1 2");
        due("13 nothing to change", x.least(1, 0, 0), 0);
        due("13 the DEED itself", x.least(1, 0, 1), 1);
        due("13 ROPE for DEED 0: the three cheap POINTS", x.least(0, 3, 0), 3);
        due("13 that DEED", x.least(0, 3, 1), 28);
        due("13 ROPE for DEED 3: one of POINTS 2, 3, 4", x.least(3, 3, 0), 1);
        due("13 of several the least number", x.least(3, 3, 1), 7);
        due("13 FREE for DEED 31: all cheap POINTS", x.least(31, 0, 0), 3);
        due("13 FREE for DEED 31, the DEED", x.least(31, 0, 1), 3);
        due("13 there is no FINE", x.least(31, 1, 0), NONE);
        due("13 there is no FINE, the DEED", x.least(31, 1, 1), NONE);
        x = Check.landOf(FIVE + ";cost 4 0");
        due("13 a COST of 0: the least number", x.least(23, 3, 1), 7);
        due("13 a COST of 0", x.least(23, 3, 0), 0);
        due("13 DEED 32", x.least(32, 0, 0), OUTSIDE);
        due("13 DEED -1", x.least(-1, 0, 0), OUTSIDE);
        due("13 JUDGMENT 4", x.least(0, 4, 0), OUTSIDE);
        due("13 JUDGMENT -1", x.least(0, -1, 0), OUTSIDE);
        due("13 what 2", x.least(0, 0, 2), OUTSIDE);
        due("13 what -1", x.least(0, 0, -1), OUTSIDE);
    }

    private static void suits() {
        LikestCase x = Check.landOf(FIVE);
        due("14 won already", x.suits(3, 0, -1), 0);
        due("14 won already, no first", x.suits(3, 0, 0), NONE);
        due("14 one", x.suits(3, 3, -1), 1);
        due("14 the first", x.suits(3, 3, 0), 7);
        due("14 no second", x.suits(3, 3, 1), NONE);
        due("14 none", x.suits(0, 3, -1), NONE);
        due("14 none, no first", x.suits(0, 3, 0), NONE);
        due("14 nothing changed", x.count(1), 2);
        x = Check.landOf("land 6;case 000000 0 1;case 111111 3 2");
        due("14 two", x.suits(3, 3, -1), 2);
        due("14 two, the first", x.suits(3, 3, 0), 15);
        due("14 two, the second", x.suits(3, 3, 1), 7);
        due("14 two, no third", x.suits(3, 3, 2), NONE);
        due("14 two, no hundredth", x.suits(3, 3, 100), NONE);
        due("14 DEED 64", x.suits(64, 0, -1), OUTSIDE);
        due("14 DEED -1", x.suits(-1, 0, -1), OUTSIDE);
        due("14 JUDGMENT 4", x.suits(0, 4, -1), OUTSIDE);
        due("14 JUDGMENT -1", x.suits(0, -1, -1), OUTSIDE);
        due("14 i -2", x.suits(0, 0, -2), OUTSIDE);
        x = Check.landOf("land 7;case 0000000 0 1");
        due("14 seven POINTS", x.suits(0, 0, -1), NOT);
        due("14 OUTSIDE ahead of NOT", x.suits(128, 0, -1), OUTSIDE);
        due("14 no CASES", new LikestCase().suits(0, 0, -1), NOT);
        due("14 no CASES, i -2", new LikestCase().suits(0, 0, -2), OUTSIDE);
        // a SUIT of YEAR 9999 is younger than an older CASE of YEAR 9999: a tie does not win
        x = Check.landOf("land 1;weight 0 0;case 0 0 9999;case 1 3 9999");
        due("14 ties to the elder", x.suits(1, 3, -1), NONE);
        x = Check.landOf(FIVE + ";pardon 1");
        due("14 a PARDONED one judges FREE", x.suits(31, 0, -1), 0);
        due("14 a PARDONED one gives no ROPE", x.suits(3, 3, -1), NONE);
    }

    private static void suitsOfTwelveCases() {
        LikestCase x = Check.landOf("land 6;case 000000 0 1;case 111111 3 2");
        for (int i = 0; i < 10; i++) {
            x.bring(63, 3);
        }
        due("14 twelve CASES", x.count(1), 12);
        due("14 two more than twelve", x.suits(3, 3, -1), 2);
        due("14 two more than twelve, the first", x.suits(3, 3, 0), 15);
        due("15 more than twelve", x.turns(3, 0), 0);
        due("15 none of more than twelve", x.turns(3, 3), NONE);
        due("14 twelve CASES still", x.count(1), 12);
    }

    private static void turns() {
        LikestCase x = Check.landOf(FIVE);
        due("15 FREE stays only behind DEED 1 or the like", x.turns(3, 0), 1);
        due("15 ROPE for DEED 3", x.turns(3, 3), 7);
        due("15 FREE for DEED 0 whatever is brought", x.turns(0, 0), 0);
        due("15 ROPE for DEED 0", x.turns(0, 3), NONE);
        due("15 there is no GAOL", x.turns(3, 2), NONE);
        due("15 nothing changed", x.count(1), 2);
        due("15 DEED 32", x.turns(32, 0), OUTSIDE);
        due("15 DEED -1", x.turns(-1, 0), OUTSIDE);
        due("15 JUDGMENT 4", x.turns(0, 4), OUTSIDE);
        due("15 JUDGMENT -1", x.turns(0, -1), OUTSIDE);
        due("15 seven POINTS", Check.landOf("land 7;case 0000000 0 1").turns(0, 0), NOT);
        due("15 six POINTS", Check.landOf("land 6;case 000000 0 1").turns(0, 0), 0);
        due("15 no CASES", new LikestCase().turns(0, 0), NOT);
        due("15 OUTSIDE ahead of NOT", new LikestCase().turns(16, 0), OUTSIDE);
    }

    private static void dead() {
        due("16 no CASES", new LikestCase().dead(), 0);
        due("16 none", Check.landOf(TWO).dead(), 0);
        due("16 the same DEED, the younger one", Check.landOf("case 0000 0 2;case 0000 3 1").dead(), 1);
        due("16 of like YEARS the greater number", Check.landOf("case 0000 0 1;case 0000 3 1").dead(), 2);
        LikestCase x = Check.landOf(TWO + ";weight 0 0;weight 1 0");
        due("16 without WEIGHTS only the ELDEST judges", x.dead(), 2);
        due("16 all but the ELDEST of twelve", manyCases(12).dead(), 4094);
        x = Check.landOf("land 10;case 0000000000 0 1;case 1111111111 0 1");
        due("16 ten POINTS", x.dead(), 0);
    }

    private static void keep() {
        due("17 no CASES", new LikestCase().keep(0), 0);
        due("17 no CASES, the set", new LikestCase().keep(1), 0);
        LikestCase x = Check.landOf(TWO + ";case 10 0 30");
        due("17 the third one is not needed", x.keep(0), 2);
        due("17 the set", x.keep(1), 3);
        x = Check.landOf(TWO);
        x.pardon(1, true);
        due("17 all FREE: one is enough", x.keep(0), 1);
        due("17 all FREE: the least", x.keep(1), 1);
        x = Check.landOf("land 2;case 00 0 40;case 11 3 20;case 00 0 30");
        due("17 CASES 0 or 2, and 1", x.keep(0), 2);
        due("17 the least set, though CASE 0 is DEAD", x.keep(1) * 10 + x.dead(), 31);
        due("17 all are needed", Check.landOf(TWO).keep(1), 3);
        due("17 eight POINTS", Check.landOf("land 8;case 00000000 0 1").keep(0), 1);
        due("17 nine POINTS", Check.landOf("land 9;case 000000000 0 1").keep(0), NOT);
        due("17 ten CASES", manyCases(10).keep(0), 1);
        due("17 eleven CASES", manyCases(11).keep(0), NOT);
        due("17 what 2", x.keep(2), OUTSIDE);
        due("17 what -1", x.keep(-1), OUTSIDE);
        due("17 OUTSIDE ahead of NOT", manyCases(11).keep(2), OUTSIDE);
    }

    private static void turning() {
        LikestCase x = Check.landOf(TWO);
        due("18 DEED 3: both", x.turning(3), 3);
        due("18 DEED 1: POINT 1", x.turning(1), 2);
        due("18 DEED 2: POINT 0", x.turning(2), 1);
        due("18 DEED 0: none", x.turning(0), 0);
        due("18 ten POINTS", Check.landOf("land 10;case 0000000000 0 1").turning(1023), 0);
        due("18 DEED 4", x.turning(4), OUTSIDE);
        due("18 DEED -1", x.turning(-1), OUTSIDE);
        due("18 no CASES", new LikestCase().turning(0), NOT);
        due("18 OUTSIDE ahead of NOT", new LikestCase().turning(16), OUTSIDE);
    }

    private static void dueOdds(LikestCase x, int[] told, long above, long below) {
        String call = "19 odds " + told[0] + " " + told[1] + " " + told[2] + " " + told[3];
        due(call + " above", x.odds(told[0], told[1], told[2], told[3], 0), above);
        due(call + " below", x.odds(told[0], told[1], told[2], told[3], 1), below);
    }

    private static void odds() {
        LikestCase x = Check.landOf(TWO);
        dueOdds(x, new int[] {0, 3, 5, 0}, 3, 4);
        dueOdds(x, new int[] {0, 3, 3, 3}, 9, 100);
        dueOdds(x, new int[] {3, 3, 2, 3}, 1, 25);
        dueOdds(x, new int[] {3, 3, 2, 0}, 24, 25);
        dueOdds(x, new int[] {3, 1, 2, 3}, 1, 5);
        dueOdds(x, new int[] {0, 1, 2, 3}, 0, 1);
        dueOdds(x, new int[] {0, 1, 2, 0}, 1, 1);
        dueOdds(x, new int[] {3, 0, 7, 3}, 1, 1);
        dueOdds(x, new int[] {3, 3, 0, 3}, 0, 1);
        dueOdds(x, new int[] {0, 3, 10, 3}, 1, 1);
        dueOdds(x, new int[] {0, 3, 5, 1}, 0, 1);
        due("19 set 4", x.odds(0, 4, 5, 0, 0), OUTSIDE);
        due("19 set -1", x.odds(0, -1, 5, 0, 0), OUTSIDE);
        due("19 p 11", x.odds(0, 3, 11, 0, 0), OUTSIDE);
        due("19 p -1", x.odds(0, 3, -1, 0, 0), OUTSIDE);
        due("19 JUDGMENT 4", x.odds(0, 3, 5, 4, 0), OUTSIDE);
        due("19 JUDGMENT -1", x.odds(0, 3, 5, -1, 0), OUTSIDE);
        due("19 part 2", x.odds(0, 3, 5, 0, 2), OUTSIDE);
        due("19 part -1", x.odds(0, 3, 5, 0, -1), OUTSIDE);
        due("19 DEED 4", x.odds(4, 3, 5, 0, 0), OUTSIDE);
        due("19 DEED -1", x.odds(-1, 3, 5, 0, 0), OUTSIDE);
        LikestCase wide = Check.landOf("land 10;case 0000000000 0 1;case 1111111100 3 0;weight 8 0;weight 9 0");
        due("19 eight of ten POINTS", wide.odds(0, 255, 1, 3, 1) > 0 ? 1 : 0, 1);
        due("19 eight others", wide.odds(0, 1020, 1, 0, 0) > 0 ? 1 : 0, 1);
        due("19 nine", wide.odds(0, 511, 1, 3, 0), OUTSIDE);
        due("19 no CASES", new LikestCase().odds(0, 0, 0, 0, 0), NOT);
        due("19 OUTSIDE ahead of NOT", new LikestCase().odds(0, 16, 0, 0, 0), OUTSIDE);
    }

    private static void forged() {
        due("20 no CASES", new LikestCase().forged(), 0);
        LikestCase x = Check.landOf(TWO);
        due("20 the younger one is not as the ELDER", x.forged(), 2);
        x.pardon(1, true);
        due("20 a PARDON is left out", x.forged(), 2);
        x = Check.landOf(TWO + ";pardon 0;pardon 1;case 11 3 30;case 11 0 31;case 01 0 15");
        due("20 as they were JUDGED first", x.forged(), 2 + 8);
        x = Check.landOf("land 2;case 11 3 7;case 00 0 7");
        due("20 of like YEARS the lesser number is the ELDER", x.forged(), 2);
        x = Check.landOf("land 2;case 11 3 7;case 00 0 6");
        due("20 the lesser YEAR is the ELDER", x.forged(), 1);
    }

    private static void cleaned() {
        due("21 no CASES", new LikestCase().cleaned(0), 0);
        due("21 no CASES, the set", new LikestCase().cleaned(1), 0);
        LikestCase x = Check.landOf(TWO);
        due("21 one", x.cleaned(0), 1);
        due("21 the least set", x.cleaned(1), 1);
        x = Check.landOf(TWO + ";case 11 0 30");
        due("21 the one that is unlike", x.cleaned(1), 2);
        x.pardon(1, true);
        due("21 a PARDON is left out", x.cleaned(1), 2);
        due("21 nothing to leave out", Check.landOf("case 0000 1 1;case 1111 1 2").cleaned(0), 0);
        due("21 nothing to leave out, the set", Check.landOf("case 0000 1 1;case 1111 1 2").cleaned(1), 0);
        due("21 ten CASES", manyCases(10).cleaned(0), 0);
        due("21 eleven CASES", manyCases(11).cleaned(0), NOT);
        due("21 ten POINTS", Check.landOf("land 10;case 0000000000 0 1").cleaned(0), 0);
        due("21 what 2", x.cleaned(2), OUTSIDE);
        due("21 what -1", x.cleaned(-1), OUTSIDE);
        due("21 OUTSIDE ahead of NOT", manyCases(11).cleaned(2), OUTSIDE);
    }

    private static void hang() {
        due("22 no CASES", new LikestCase().hang(-1), 81);
        due("22 no CASES, the first", new LikestCase().hang(3), 0);
        LikestCase x = Check.landOf(TWO);
        due("22 none", x.hang(-1), 0);
        due("22 none, POINT 0", x.hang(0), NONE);
        x.pardon(1, true);
        due("22 a PARDON is left out", x.hang(-1), 0);
        x = Check.landOf("land 6;weight 0 9;case 000000 2 1;case 111111 2 1");
        due("22 all", x.hang(-1), 729);
        due("22 all, the last POINT of the first", x.hang(5), 0);
        due("22 WEIGHTS are not changed", x.point(0, 0), 9);
        due("22 no POINT 6", x.hang(6), UNKNOWN);
        due("22 no POINT -2", x.hang(-2), UNKNOWN);
        x = Check.landOf("land 7");
        due("22 seven POINTS", x.hang(-1), NOT);
        due("22 seven POINTS, POINT 6", x.hang(6), NOT);
        due("22 UNKNOWN ahead of NOT", x.hang(7), UNKNOWN);
    }

    private static void border() {
        due("23 no CASES", new LikestCase().border(), NOT);
        LikestCase x = Check.landOf(TWO);
        due("23 two pairs", x.border(), 2);
        x.pardon(1, true);
        due("23 all FREE", x.border(), 0);
        due("23 five POINTS: ten DEEDS of two, three more each", Check.landOf(FIVE).border(), 30);
        x = Check.landOf("land 10;case 0000000000 0 1;case 1000000000 1 1");
        due("23 ten POINTS", x.border(), 512);
    }

    private static void parts() {
        due("24 no CASES", new LikestCase().parts(0, 0), 0);
        due("24 no CASES, the greatest", new LikestCase().parts(0, 1), 0);
        LikestCase x = Check.landOf(TWO);
        due("24 FREE", x.parts(0, 0), 1);
        due("24 FREE, the greatest", x.parts(0, 1), 3);
        due("24 ROPE", x.parts(3, 0), 1);
        due("24 ROPE, the greatest", x.parts(3, 1), 1);
        due("24 FINE", x.parts(1, 0), 0);
        due("24 FINE, the greatest", x.parts(1, 1), 0);
        x = Check.landOf("land 2;case 00 0 1;case 11 0 2;case 10 3 3;case 01 3 4");
        due("24 two PARTS", x.parts(3, 0), 2);
        due("24 two PARTS of one DEED each", x.parts(3, 1), 1);
        x = Check.landOf("land 3;case 000 3 2;case 110 3 2;case 111 3 2"
                + ";case 100 0 1;case 010 0 1;case 001 0 1;case 101 0 1");
        due("24 DEED 0; DEEDS 3, 7", x.parts(3, 0), 2);
        due("24 the greatest comes last", x.parts(3, 1), 2);
        due("24 DEEDS 1, 2, 4, 5, 6", x.parts(0, 0), 1);
        due("24 five DEEDS", x.parts(0, 1), 5);
        x = Check.landOf("land 3;case 000 3 2;case 100 3 2;case 011 3 2"
                + ";case 010 0 1;case 001 0 1;case 111 0 1;case 110 0 1");
        due("24 DEEDS 0, 1; DEED 6", x.parts(3, 0), 2);
        due("24 the greatest comes first", x.parts(3, 1), 2);
        x = Check.landOf("land 10;case 0000000000 2 1");
        due("24 the whole land", x.parts(2, 0), 1);
        due("24 the whole land, its DEEDS", x.parts(2, 1), 1024);
        due("24 JUDGMENT 4", x.parts(4, 0), OUTSIDE);
        due("24 JUDGMENT -1", x.parts(-1, 0), OUTSIDE);
        due("24 what 2", x.parts(0, 2), OUTSIDE);
        due("24 what -1", x.parts(0, -1), OUTSIDE);
    }

    private static void frees() {
        LikestCase x = Check.landOf(FIVE);
        due("25 ROPE", x.frees(1), 16);
        due("25 FREE already", x.frees(0), 0);
        x.pardon(1, true);
        due("25 PARDONED already", x.frees(1), 0);
        due("25 no CASE 2", x.frees(2), UNKNOWN);
        due("25 no CASE -1", x.frees(-1), UNKNOWN);
        due("25 a DEAD one", Check.landOf("case 0000 1 1;case 0000 3 2").frees(1), 0);
        due("25 nothing changed", x.older(0, 3), 0);
    }

    private static void save() {
        LikestCase x = Check.landOf(TWO);
        due("26 image 0", x.save(0), 2);
        x.bring(1, 1);
        due("26 image 1", x.save(1), 3);
        due("26 image 2", x.save(2), UNKNOWN);
        due("26 image -1", x.save(-1), UNKNOWN);
        due("26 the images are two", x.back(0) * 10 + x.back(1), 23);
        due("26 over an image", x.save(0), 3);
        x.bring(0, 1);
        due("26 the newer one", x.back(0), 3);
        due("26 no CASES", new LikestCase().save(1), 0);
    }

    private static void back() {
        LikestCase x = Check.landOf(TWO);
        due("27 nothing was kept", x.back(0), NOT);
        due("27 image 2", x.back(2), UNKNOWN);
        due("27 image -1", x.back(-1), UNKNOWN);
        x.pardon(1, true);
        x.save(1);
        due("27 the other image", x.back(0), NOT);
        x.pardon(1, false);
        x.bring(3, 5);
        due("27 ROPE ahead", x.deeds(3, -1), 3);
        due("27 two CASES", x.back(1), 2);
        due("27 as they were: PARDONED", x.older(1, 3), 1);
        due("27 as they were: the first JUDGMENT", x.forged(), 2);
        due("27 as they were: DEEDS", x.deeds(3, -1), 0);
        due("27 as they were: ELDER ones", x.older(0, 4), 0);
        Check.tell(x, "land 2;case 10 2 7;case 01 1 6");
        x.land();
        x.save(1);
        Check.tell(x, "x");
        x.bring(3, 0);
        x.erase();
        due("27 back again", x.back(1), 2);
        due("27 DEED, JUDGMENT, YEAR of 0", x.older(0, 0) * 100 + x.older(0, 1) * 10 + x.older(0, 2), 127);
        due("27 DEED, JUDGMENT, YEAR of 1", x.older(1, 0) * 100 + x.older(1, 1) * 10 + x.older(1, 2), 216);
        due("27 ELDER ones of both", x.older(0, 4) * 10 + x.older(1, 4), 10);
        x = Check.landOf(TWO);
        x.save(0);
        x.save(1);
        x.bring(0, 0);
        x.bring(0, 0);
        x.back(1);
        due("27 the first of all, from image 0", x.back(0) * 100 + x.older(0, 2) * 10 + x.older(0, 1), 300);
        due("27 the last of all, from image 0", x.older(1, 2) * 10 + x.older(1, 1), 203);
        x.pardon(1, true);
        x.save(1);
        x.pardon(1, false);
        due("27 the image is not changed by that", x.back(1) * 10 + x.older(1, 3), 21);
        Check.tell(x, "cost 0 1");
        x.back(1);
        due("27 THE TEXT stays", x.count(2), 8);
        x.land();
        due("27 nothing is kept behind a text, image 0", x.back(0), NOT);
        due("27 nothing is kept behind a text, image 1", x.back(1), NOT);
        x.save(0);
        due("27 kept since then", x.back(0), 2);
        due("27 the other image was not", x.back(1), NOT);
        LikestCase y = new LikestCase();
        y.save(0);
        due("27 kept without CASES", y.back(0), 0);
    }

    private static void count() {
        LikestCase x = Check.landOf("land 7;weight 6 9;case 0000000 0 1");
        x.write(32, 1);
        due("28 POINTS", x.count(0), 7);
        due("28 CASES", x.count(1), 1);
        due("28 bytes", x.count(2), 1);
        due("28 WEIGHTS together", x.count(3), 15);
        due("28 what 4", x.count(4), OUTSIDE);
        due("28 what -1", x.count(-1), OUTSIDE);
    }
}
