/**
 * The boundary cases of promises 20 to 25 and of parts 2 and 3 of the terms, a
 * run for each sentence that names one.
 */
public final class EdgesBestTest {
    private static final Due DUE = new Due();
    /**
     * 0 KNOWS 0, 1, 2, worth 10, 20, 30; 1 to 3 KNOW ever more, the dearest
     * first: for fact 5 it takes three talks, for fact 4 four of them.
     */
    private static final String STAIRS = "fact 10; fact 20; fact 30; fact 40; fact 60; fact 70; fact 80; fact 90;"
        + "4x person;"
        + "knows 0 0 0b00000111; knows 1 0 0b10000000; knows 2 0 0b11000000; knows 3 0 0b11110000;";

    public static void main(String[] args) {
        richest();
        fewest();
        fewestRefused();
        fewestRows();
        look();
        find();
        keepsBack();
        fine();
        DUE.end();
    }

    private static void run(String sentence, String... rows) {
        Script.run(DUE, sentence, rows);
    }

    private static void richest() {
        run("20: NONE: there are no PEOPLE", "richest = NONE; fact 9; richest = NONE; keep; person; richest = 0; back",
            "richest = NONE");
        run("20: of several the least", "fact 10; fact 20; fact 30; 8x person; richest = 0; knows 7 0 1; richest = 7",
            "knows 6 0 1; richest = 6; knows 7 0 4; richest = 7; knows 1 0 3; richest = 1; set 0 0 9; richest = 7",
            "knows 0 0 4; richest = 0");
        run("20: WORTHS of 0; stale FACTS", "fact 0; fact 1; 2x person; knows 1 0 1; richest = 0; knows 1 0 2",
            "richest = 1; set 1 1 0; clock 1; richest = 1; set 1 0 0; richest = 0");
        run("20: WORTHS, not PRICES", "fact 10; fact 20; 2x person; knows 0 0 1; knows 1 0 2; knows 0 1 1",
            "law \"price 99-w\"; richest = 1");
    }

    private static void fewest() {
        run("21: 0 .. n: none is needed for what it KNOWS", STAIRS, "fewest 0 0 0 -1 = 0; fewest 0 0 3 -1 = 0",
            "fewest 0 0 0 0 = NONE; fewest 0 0 3 0 = NONE; fewest 0 0 3 MAX = NONE");
        run("21: NONE: not by n: one talk", STAIRS, "fewest 0 7 0 -1 = NONE; fewest 0 7 0 0 = NONE",
            "fewest 0 7 1 -1 = 1; fewest 0 7 3 -1 = 1; fewest 0 7 1 0 = 1; fewest 0 7 3 0 = 1; fewest 0 7 3 1 = NONE");
        run("21: NONE: not by n: two talks", STAIRS, "fewest 0 6 1 -1 = NONE; fewest 0 6 1 0 = NONE",
            "fewest 0 6 2 -1 = 2; fewest 0 6 3 -1 = 2; fewest 0 6 2 0 = 1; fewest 0 6 2 1 = 2; fewest 0 6 2 2 = NONE",
            "fewest 0 6 3 2 = NONE");
        run("21: NONE: not by n: three talks", STAIRS, "fewest 0 5 2 -1 = NONE; fewest 0 5 2 0 = NONE",
            "fewest 0 5 3 -1 = 3; fewest 0 5 3 0 = 1; fewest 0 5 3 1 = 2; fewest 0 5 3 2 = 3; fewest 0 5 3 3 = NONE",
            "fewest 0 5 3 MAX = NONE");
        run("21: NONE: not by n: four would be needed", STAIRS, "fewest 0 4 3 -1 = NONE; fewest 0 4 3 0 = NONE",
            "talk 0 0 1; talk 0 0 2; talk 0 0 3; say 0 = 1; say 1 = 1; say 2 = 1; fewest 0 4 1 -1 = 1",
            "fewest 0 4 1 0 = 3");
        run("21: what nobody KNOWS", STAIRS, "fewest 0 3 3 -1 = NONE; fewest 1 3 3 0 = NONE");
        run("21: one alone", "fact 9; person; fewest 0 0 3 -1 = NONE; fewest 0 0 0 -1 = NONE; knows 0 0 1",
            "fewest 0 0 0 -1 = 0");
    }

    private static void fewestRefused() {
        run("21: BAD: no such one, no such FACT", STAIRS, "fewest -1 0 0 -1 = BAD; fewest 4 0 0 -1 = BAD",
            "fewest MIN 0 0 -1 = BAD; fewest MAX 0 0 -1 = BAD; fewest 0 -1 0 -1 = BAD; fewest 0 8 0 -1 = BAD",
            "fewest 0 MIN 0 -1 = BAD; fewest 0 MAX 0 -1 = BAD; fewest 3 7 0 -1 = 0");
        run("21: n (0 .. 3)", STAIRS, "fewest 0 0 -1 -1 = BAD; fewest 0 0 MIN -1 = BAD; fewest 0 0 4 -1 = BAD",
            "fewest 0 0 MAX -1 = BAD; fewest 0 5 -1 0 = BAD; fewest 0 5 4 0 = BAD; fewest 0 0 0 -1 = 0",
            "fewest 0 0 3 -1 = 0");
        run("21: what -1, or i from 0 on", STAIRS, "fewest 0 0 0 -2 = BAD; fewest 0 5 3 -2 = BAD",
            "fewest 0 5 3 MIN = BAD; fewest 0 5 3 -1 = 3; fewest 0 5 3 0 = 1");
        run("21: BAD; NONE: of both BAD stands first", STAIRS, "fewest 0 3 4 -1 = BAD; fewest 0 3 -1 0 = BAD",
            "fewest 0 3 3 -2 = BAD; fewest 4 3 3 9 = BAD; fewest 0 8 3 9 = BAD");
    }

    private static void fewestRows() {
        run("21: the first of such rows by PEOPLE that are asked", "fact 10; fact 20; 8x person; knows 3 0 1",
            "knows 7 0 2; fewest 3 1 3 0 = 7; knows 5 0 2; fewest 3 1 3 0 = 5; knows 0 0 2; fewest 3 1 3 0 = 0",
            "fewest 3 1 3 -1 = 1");
        run("21: of eight nobody helps", "3x fact 10; 8x person; knows 7 0 1; knows 0 0 2; fewest 7 2 3 -1 = NONE",
            "fewest 0 2 3 -1 = NONE; fewest 7 1 3 -1 = 1; fewest 7 1 3 0 = 0; fewest 0 0 3 0 = 7");
        run("21: the same one may be asked again", "fact 1; fact 2; fact 3; fact 8; fact 9; 2x person; knows 0 0 7",
            "knows 1 0 24; fewest 0 3 1 -1 = NONE; fewest 0 3 2 -1 = 2; fewest 0 3 2 0 = 1; fewest 0 3 2 1 = 1");
        run("21: only such as GO", "fact 10; fact 20; 2x person; knows 1 0 3; fewest 0 1 3 -1 = NONE; knows 0 0 1",
            "fewest 0 1 3 -1 = NONE; knows 1 0 2; fewest 0 1 3 -1 = 1; set 0 1 0; clock 1; fewest 0 1 3 -1 = NONE",
            "set 0 1 1; fewest 0 1 3 -1 = 1; set 1 1 0; fewest 0 1 3 -1 = NONE");
        run("21: THE HOUR stands: all talks are in the same one", STAIRS, "clock 999; fewest 0 5 3 -1 = 3; set 5 1 998",
            "fewest 0 5 3 -1 = NONE; clock 998; fewest 0 5 3 -1 = 3; count 4 = 998; count 5 = 0");
        run("21: of the KIND 0, whatever TALKS there are", "fact 20; fact 10; 2x person; knows 1 0 3; talk 4 0 1",
            "fewest 0 0 3 -1 = NONE; knows 0 0 2; knows 1 0 1; turns 0 1; told 0 5 = 0; fewest 0 0 1 -1 = 1");
        run("21: by the PRICES of the TEXT that counts", "fact 10; fact 20; fact 30; 2x person; knows 0 0 1",
            "knows 1 0 6; fewest 0 2 3 -1 = 1; fewest 0 1 3 -1 = NONE",
            "law \"price 99-w\"; fewest 0 2 3 -1 = NONE; fewest 0 1 3 -1 = 1; law \"price w\"; fewest 0 2 3 -1 = 1",
            "fewest 0 1 3 -1 = NONE");
        run("21: what FOLLOWS counts, on both sides", "4x fact 10; 2x person; follows 0 1 2; follows 2 2 3",
            "knows 0 0 1; knows 1 0 2; fewest 0 3 0 -1 = NONE; fewest 0 3 1 -1 = 1; fewest 0 2 1 0 = 1",
            "personTold 0 0 = 1; personTold 1 0 = 2");
    }

    private static void look() {
        run("22: BAD: no such one, no such FACT", "2x fact 9; 2x person; look -1 0 = BAD; look 2 0 = BAD",
            "look MIN 0 = BAD; look MAX 0 = BAD; look 0 -1 = BAD; look 0 2 = BAD; look 0 MIN = BAD; look 0 MAX = BAD",
            "look 1 1 = 10");
        run("22: BAD; NO: it KNOWS it", "2x fact 9; 2x person; knows 0 0 1; look 0 0 = NO; look 0 1 = 10; look 1 0 = 9",
            "look 0 2 = BAD; look 2 0 = BAD; law \"look 50\"; look 0 0 = NO; look 1 0 = 50");
        run("22: without a TEXT: 10, less how many KNOW it", "fact 9; 8x person; look 7 0 = 10; knows 0 0 1",
            "look 7 0 = 9; knows 1 0 1; knows 2 0 1; knows 3 0 1; knows 4 0 1; knows 5 0 1; look 7 0 = 4; knows 6 0 1",
            "look 7 0 = 3");
        run("22: held within 1 .. 99", "fact 9; person; law \"look 0-1\"; look 0 0 = 1; law \"look 0\"; look 0 0 = 1",
            "law \"look 1\"",
            "look 0 0 = 1; law \"look 2\"; look 0 0 = 2; law \"look 98\"; look 0 0 = 98; law \"look 99\"",
            "look 0 0 = 99",
            "law \"look 100\"; look 0 0 = 99; law \"look 9999\"; look 0 0 = 99; law \"look 9999*9999*30\"",
            "look 0 0 = 1",
            "law \"look 8*8*8*8*8*8*8*8*8*8*2-1\"; look 0 0 = 99; law \"look 8*8*8*8*8*8*8*8*8*8*2\"; look 0 0 = 1");
        run("22: of look w, k", "fact 0; fact 99; 8x person; law \"look w\"; look 0 0 = 1; look 0 1 = 99",
            "law \"look k+1\"; look 0 0 = 1; knows 1 0 1; knows 2 0 1; knows 3 0 1; knows 4 0 1; knows 5 0 1",
            "knows 6 0 1; knows 7 0 1; look 0 0 = 8; look 0 1 = 1");
        run("22: for a FACT that is stale", "fact 9; person; set 0 1 0; clock 1; look 0 0 = 10");
    }

    private static void find() {
        run("23: BAD: no such one, no such FACT", "2x fact 9; 2x person; find -1 0 = BAD; find 2 0 = BAD",
            "find MIN 0 = BAD; find MAX 0 = BAD; find 0 -1 = BAD; find 0 2 = BAD; find 0 MIN = BAD; find 0 MAX = BAD",
            "count 4 = 0; find 1 1 = 10");
        run("23: NO: it KNOWS it", "fact 9; person; knows 0 0 1; find 0 0 = NO; count 4 = 0; clock 999; find 0 0 = NO",
            "find 0 1 = BAD");
        run("23: THE HOUR is so much more (999 at most)", "fact 9; person; clock 988; find 0 0 = 998; knows 0 0 0",
            "clock 989; find 0 0 = 999; knows 0 0 0; clock 990; find 0 0 = 999; knows 0 0 0; find 0 0 = 999",
            "personTold 0 0 = 1");
        run("23: 99 hours at most, 1 at least", "fact 9; person; law \"look 9999\"; find 0 0 = 99; knows 0 0 0",
            "clock 900; find 0 0 = 999; knows 0 0 0; clock 901; find 0 0 = 999; knows 0 0 0; law \"look 0-5\"; clock 5",
            "find 0 0 = 6; knows 0 0 0; clock 998; find 0 0 = 999");
        run("23: it KNOWS the FACT (and what FOLLOWS), beside what it knew", "4x fact 9; 2x person; follows 0 1 2",
            "follows 2 2 3; knows 0 0 2; find 0 0 = 10; personTold 0 0 = 15; personTold 1 0 = 0; find 0 3 = NO",
            "count 5 = 0");
        run("23: how many KNOW it, ahead of it", "fact 9; 8x person; find 0 0 = 10; find 1 0 = 19; find 2 0 = 27",
            "find 3 0 = 34; find 4 0 = 40; find 5 0 = 45; find 6 0 = 49; find 7 0 = 52; factTold 0 3 = 255");
        run("23: a FACT that is stale can be found", "fact 9; person; set 0 1 0; clock 1; find 0 0 = 11",
            "personTold 0 0 = 1; factTold 0 2 = 0");
    }

    private static void keepsBack() {
        run("24: BAD: no such one", "fact 9; 2x person; keepsBack -1 = BAD; keepsBack 2 = BAD; keepsBack MIN = BAD",
            "keepsBack MAX = BAD; keepsBack 8 = BAD; keepsBack 1 = NONE");
        run("24: NONE: it KNOWS no FRESH FACT", "person; keepsBack 0 = NONE; 2x fact 9; keepsBack 0 = NONE",
            "knows 0 0 3; keepsBack 0 = 0; set 0 1 4; clock 4; keepsBack 0 = 0; clock 5; keepsBack 0 = 1; set 1 1 4",
            "keepsBack 0 = NONE");
        run("24: for all those that don't KNOW it: there are none", "fact 9; fact 99; 2x person; knows 0 0 3",
            "knows 1 0 3; keepsBack 0 = 0; keepsBack 1 = 0; knows 1 0 1; keepsBack 0 = 1; keepsBack 1 = 0; person",
            "keepsBack 1 = 0; keepsBack 0 = 1");
        run("24: for all those: the first one, the last one", "2x fact 50; 3x person; knows 1 0 3; knows 2 0 3",
            "knows 0 0 1; keepsBack 1 = 1; knows 0 0 3; knows 2 0 1; keepsBack 1 = 1; keepsBack 0 = 1",
            "keepsBack 2 = 0");
        run("24: one alone KNOWS all", "3x fact 9; person; knows 0 0 6; keepsBack 0 = 1");
        run("24: the greatest sum; of several the least", "fact 40; fact 20; fact 41; 3x person; knows 0 0 7",
            "keepsBack 0 = 2; knows 1 0 4; keepsBack 0 = 0; knows 1 0 5; set 1 0 20; set 2 0 41; keepsBack 0 = 2",
            "set 2 0 40; keepsBack 0 = 0; set 1 0 21; keepsBack 0 = 1");
        run("24: sums beyond 999", "fact 1; fact 2; 8x person; knows 0 0 3; knows 1 0 1; law \"price 999\"",
            "keepsBack 0 = 1; knows 1 0 3; keepsBack 0 = 0; law \"price 1000-w\"; keepsBack 0 = 0; law \"price w*500\"",
            "keepsBack 0 = 1");
        run("24: the sixteenth, the eighth", "16x fact 9; 8x person; knows 7 0 32768; keepsBack 7 = 15",
            "knows 7 0 65535; keepsBack 7 = 0; set 15 0 10; keepsBack 7 = 15");
    }

    private static void fine() {
        run("25: without a TEXT: 0", "fine = 0; clock 9; fine = 0; law \"price 1\"; law \"look 1\"; fine = 0",
            "law \"fine\" = -104; fine = 0");
        run("25: of fine s SAID, h THE HOUR", "law \"fine s*1000+h\"; fine = 0; clock 999; fine = 999; clock 0",
            "2x fact 9; 2x person; knows 1 0 3; talk 4 0 1; market = 3; fine = 2003; keep; clock 0; fine = 2000; back",
            "fine = 2003");
        run("25: what fine gives is not held", "law \"fine 8*8*8*8*8*8*8*8*8*8*2\"; fine = MIN",
            "law \"fine 8*8*8*8*8*8*8*8*8*8*2-1\"",
            "fine = MAX; law \"fine 0-1\"; fine = -1; law \"fine 0-9999*9999\"; fine = -99980001");
    }
}
