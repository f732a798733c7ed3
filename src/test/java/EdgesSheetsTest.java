/**
 * The boundary cases of promises 31 to 39 and of part 5 of the terms, a run for
 * each sentence that names one.
 */
public final class EdgesSheetsTest {
    private static final Due DUE = new Due();
    /** Sheet 0: three shorts 1, 2, 3; sheet 1: three floats 1, NO NUMBER, 3. */
    private static final String ROWS = "sheet 0 0 3 = 3; mark 0 0 1; mark 0 1 2; mark 0 2 3; sheet 1 1 3 = 3;"
        + "mark 1 0 1;"
        + "mark 1 1 NONE = 1; mark 1 2 3;";
    private static final String TALK = "fact 10; fact 30; 2x person; knows 0 0 1; knows 1 0 2; talk 3 0 1;";

    public static void main(String[] args) {
        sheet();
        markShorts();
        markFloats();
        markOrder();
        pour();
        reads();
        copy();
        copyOrder();
        lay();
        ask();
        item();
        rest();
        DUE.end();
    }

    private static void run(String sentence, String... rows) {
        Script.run(DUE, sentence, rows);
    }

    private static void sheet() {
        run("31: SHEETS 0 .. 3", "sheet -1 0 1 = BAD; sheet 4 0 1 = BAD; sheet MIN 0 1 = BAD; sheet MAX 0 1 = BAD",
            "sheet 0 0 1 = 1; sheet 3 0 1 = 1; sheet 4 -1 0 = BAD; sheet -1 -1 0 = BAD; mark 0 0 5 = 1; mark 3 0 5 = 1",
            "mark 1 0 5 = NOTHING; mark 2 0 5 = NOTHING");
        run("31: shorts (sort 0) or floats (1), MISSING (-1)", "sheet 0 -2 1 = BAD; sheet 0 2 1 = BAD",
            "sheet 0 MIN 1 = BAD; sheet 0 MAX 1 = BAD; sheet 0 0 1 = 1; mark 0 0 NONE = KIND; sheet 0 1 1 = 1",
            "mark 0 0 NONE = 1; sheet 0 -1 1 = 0; mark 0 0 1 = NOTHING");
        run("31: 0 to 24 places", "sheet 0 0 0 = 0; mark 0 0 1 = INDEX; sheet 0 0 24 = 24; mark 0 23 7 = 1",
            "mark 0 24 7 = INDEX; sheet 0 0 25 = BAD; lay 0 2 0; item 0 23 = 7; sheet 0 1 25 = BAD",
            "sheet 0 1 MAX = BAD; sheet 1 1 24 = 24; mark 1 23 7 = 1; mark 1 24 7 = INDEX");
        run("31: SIZE", ROWS + "sheet 0 0 -1 = SIZE; sheet 0 1 -1 = SIZE; sheet 0 0 MIN = SIZE; sheet 2 1 MIN = SIZE",
            "reads 2 = NOTHING");
        run("31: BAD: sheet, sort, n above 24; SIZE: BAD stands first", "sheet 4 0 -1 = BAD; sheet -1 1 -1 = BAD",
            "sheet 0 2 -1 = BAD; sheet 0 -2 -1 = BAD; sheet 0 2 25 = BAD; sheet 4 2 MIN = BAD; reads 0 = NOTHING");
        run("31: sort -1: MISSING, n any: n (0)", ROWS, "sheet 0 -1 25 = 0; sheet 1 -1 -1 = 0; sheet 2 -1 MIN = 0",
            "sheet 3 -1 MAX = 0; reads 0 = NOTHING; reads 1 = NOTHING; sheet 0 -1 0 = 0; sheet 0 0 3 = 3",
            "lay 0 2 0 = 0; item 0 0 = 0; item 0 2 = 0");
        run("31: all 0, whatever it was", ROWS, "sheet 0 0 3 = 3; sheet 1 1 3 = 3; lay 0 2 0; lay 1 2 1; item 0 0 = 0",
            "item 0 2 = 0; item 1 1 = 0; mark 0 2 9; sheet 0 0 2 = 2; sheet 0 0 3 = 3; lay 0 2 0; item 0 2 = 0");
        run("31: an empty row is not MISSING", "sheet 0 0 0 = 0; reads 0 = NONE; pour 0 = 0; lay 0 2 0 = 0",
            "item 0 0 = INDEX; copy 0 0 0 0 0 = 0");
    }

    private static void markShorts() {
        run("32: of shorts its lowest 16 bits", "sheet 0 0 2; mark 0 0 32767 = 1; lay 0 2 0; item 0 0 = 32767",
            "mark 0 0 32768; lay 0 2 0; item 0 0 = -32768; mark 0 0 65535; lay 0 2 0; item 0 0 = -1; mark 0 0 65536",
            "lay 0 2 0; item 0 0 = 0; mark 0 0 -32768; lay 0 2 0; item 0 0 = -32768; mark 0 0 -32769; lay 0 2 0",
            "item 0 0 = 32767; mark 0 0 MIN = 1; lay 0 2 0; item 0 0 = 0; mark 0 0 MAX = 1; lay 0 2 0; item 0 0 = -1",
            "mark 0 0 100000 = 1; lay 0 2 0; item 0 0 = -31072; item 0 1 = 0");
        run("32: KIND: NONE in a row of shorts, and no other number", "sheet 0 0 1; mark 0 0 NONE = KIND",
            "mark 0 0 BAD = 1; mark 0 0 -1000000004 = 1; mark 0 0 -1000000006 = 1; mark 0 0 NOTHING = 1");
    }

    private static void markFloats() {
        run("32: of floats v, -99999 .. 99999", "sheet 0 1 2; mark 0 0 99999 = 1; mark 0 1 -99999 = 1; lay 0 2 0",
            "item 0 0 = 99999; item 0 1 = -99999; mark 0 0 100000 = BAD; mark 0 1 -100000 = BAD; mark 0 0 MIN = BAD",
            "mark 0 0 MAX = BAD; lay 0 2 0; item 0 0 = 99999; item 0 1 = -99999; mark 0 0 32768 = 1; lay 0 2 0",
            "item 0 0 = 32768; mark 0 0 0 = 1; lay 0 2 0; item 0 0 = 0");
        run("32: NONE: NO NUMBER, and no other number", "sheet 0 1 1; mark 0 0 NONE = 1; lay 0 2 0; item 0 0 = KIND",
            "mark 0 0 -1000000004 = BAD; mark 0 0 -1000000006 = BAD; mark 0 0 BAD = BAD; mark 0 0 KIND = BAD",
            "lay 0 2 0; item 0 0 = KIND; mark 0 0 5 = 1; lay 0 2 0; item 0 0 = 5");
    }

    private static void markOrder() {
        run("32: INDEX", ROWS, "mark 0 -1 0 = INDEX; mark 0 3 0 = INDEX; mark 0 MIN 0 = INDEX; mark 0 MAX 0 = INDEX",
            "mark 1 -1 0 = INDEX; mark 1 3 0 = INDEX; mark 1 24 0 = INDEX; mark 0 0 7 = 1; mark 0 2 7 = 1");
        run("32: BAD: sheet; NOTHING; INDEX; KIND; BAD: the first that stands", ROWS, "mark 4 -1 NONE = BAD",
            "mark -1 9 0 = BAD; mark MIN 0 100000 = BAD; mark MAX 0 0 = BAD; mark 2 -1 NONE = NOTHING",
            "mark 3 99 100000 = NOTHING; mark 0 3 NONE = INDEX; mark 0 -1 NONE = INDEX; mark 1 3 100000 = INDEX",
            "mark 1 -1 -100000 = INDEX; mark 0 2 NONE = KIND; mark 1 2 100000 = BAD");
    }

    private static void pour() {
        run("33: BAD; NOTHING", "fact 5; pour -1 = BAD; pour 4 = BAD; pour MIN = BAD; pour MAX = BAD; pour 0 = NOTHING",
            "pour 3 = NOTHING; sheet 3 0 1; pour 3 = 1");
        run("33: each held within 0 .. 99", "6x fact 50; sheet 0 1 6; mark 0 0 -1; mark 0 1 0; mark 0 2 99",
            "mark 0 3 100; mark 0 4 -99999; mark 0 5 99999; pour 0 = 6; factTold 0 0 = 0; factTold 1 0 = 0",
            "factTold 2 0 = 99; factTold 3 0 = 99; factTold 4 0 = 0; factTold 5 0 = 99; pour 0 = 0; lay 0 2 0",
            "item 0 3 = 100; item 0 0 = -1");
        run("33: ... of shorts", "4x fact 50; sheet 0 0 4; mark 0 0 -32768; mark 0 1 32767; mark 0 2 32768",
            "mark 0 3 65636; pour 0 = 4; factTold 0 0 = 0; factTold 1 0 = 99; factTold 2 0 = 0; factTold 3 0 = 99");
        run("33: NO NUMBER: they stay", "3x fact 50; sheet 0 1 3; mark 0 0 NONE; mark 0 1 7; mark 0 2 NONE; pour 0 = 1",
            "factTold 0 0 = 50; factTold 1 0 = 7; factTold 2 0 = 50; pour 0 = 0");
        run("33: beyond the SHEET: they stay", "3x fact 50; sheet 0 0 2; pour 0 = 2; factTold 1 0 = 0",
            "factTold 2 0 = 50; sheet 0 0 0; pour 0 = 0");
        run("33: places beyond the FACTS", "fact 50; sheet 0 0 24; mark 0 1 7; pour 0 = 1; fact 3; factTold 1 0 = 3",
            "pour 0 = 1; factTold 1 0 = 7");
        run("33: no FACTS; sixteen", "sheet 0 0 24; pour 0 = 0; 16x fact 9; pour 0 = 16; factTold 15 0 = 0",
            "mark 0 15 5; pour 0 = 1; pour 0 = 0; sheet 0 0 15; pour 0 = 0; factTold 15 0 = 5; sheet 0 0 16",
            "pour 0 = 1; factTold 15 0 = 0");
        run("33: how many are otherwise then: what is held to the same is not", "2x fact 99; sheet 0 0 2; mark 0 0 100",
            "mark 0 1 99; pour 0 = 0; set 1 0 0; mark 0 1 -5; pour 0 = 0");
    }

    private static void reads() {
        run("34: BAD; NOTHING", "person; reads -1 = BAD; reads 4 = BAD; reads MIN = BAD; reads MAX = BAD",
            "reads 0 = NOTHING; reads 3 = NOTHING; sheet 3 0 1; reads 3 = NONE");
        run("34: NONE: there is none", "2x fact 9; 2x person; knows 0 0 3; sheet 0 0 0; reads 0 = NONE; sheet 0 0 1",
            "reads 0 = 0; mark 0 0 2; reads 0 = NONE; sheet 1 1 2; mark 1 0 2; reads 1 = NONE; knows 1 0 1",
            "reads 1 = 1; mark 1 1 1; reads 1 = NONE");
        run("34: the first place", "2x fact 9; 2x person; knows 0 0 3; knows 1 0 1; sheet 0 0 2; reads 0 = 0",
            "mark 0 0 2; reads 0 = 1; mark 0 0 1; mark 0 1 1; reads 0 = 0");
        run("34: of places that are nobody all numbers are not, 0 too", "sheet 0 0 1; reads 0 = 0; person",
            "reads 0 = NONE; sheet 0 1 3; reads 0 = 1; mark 0 1 NONE; reads 0 = 2; mark 0 2 NONE; reads 0 = NONE",
            "mark 0 2 -1; reads 0 = 2");
        run("34: of numbers alone", "fact 9; 2x person; sheet 0 1 2; mark 0 0 NONE; mark 0 1 NONE; reads 0 = NONE",
            "knows 0 0 1; reads 0 = NONE; mark 0 1 5; reads 0 = 1");
        run("34: eight who KNOW sixteen", "16x fact 9; 8x person; knows 7 0 65535; sheet 0 0 9; mark 0 7 16",
            "reads 0 = 8; sheet 0 0 8; reads 0 = 7; mark 0 7 16; reads 0 = NONE; mark 0 7 15; reads 0 = 7; mark 0 7 17",
            "reads 0 = 7; mark 0 7 65552; reads 0 = NONE");
        run("34: stale ones count", "fact 9; person; knows 0 0 1; set 0 1 0; clock 1; sheet 0 0 1; reads 0 = 0",
            "mark 0 0 1; reads 0 = NONE");
    }

    private static void copy() {
        run("35: so many places: none, one, all", ROWS, "sheet 2 0 3; copy 0 0 2 0 0 = 0; lay 0 2 2; item 0 0 = 0",
            "copy 0 2 2 0 1 = 1; lay 0 2 2; item 0 0 = 3; item 0 1 = 0; copy 0 0 2 0 3 = 3; lay 0 2 2; item 0 0 = 1",
            "item 0 1 = 2; item 0 2 = 3");
        run("35: INDEX: the places that are read", ROWS, "sheet 2 0 24; copy 0 -1 2 0 1 = INDEX",
            "copy 0 3 2 0 1 = INDEX; copy 0 2 2 0 2 = INDEX; copy 0 0 2 0 4 = INDEX; copy 0 3 2 0 0 = 0",
            "copy 0 4 2 0 0 = INDEX; copy 0 -1 2 0 0 = INDEX; copy 0 2 2 0 1 = 1; copy 0 0 2 0 3 = 3",
            "copy 0 1 2 0 MAX = INDEX; copy 0 MAX 2 0 1 = INDEX; copy 0 MAX 2 0 MAX = INDEX; copy 0 MIN 2 0 1 = INDEX");
        run("35: INDEX: the places that are written", ROWS, "sheet 2 0 24; copy 2 0 0 -1 1 = INDEX",
            "copy 2 0 0 3 1 = INDEX; copy 2 0 0 2 2 = INDEX; copy 2 0 0 0 4 = INDEX; copy 2 0 0 3 0 = 0",
            "copy 2 0 0 4 0 = INDEX; copy 2 0 0 -1 0 = INDEX; copy 2 0 0 2 1 = 1; copy 2 0 0 0 3 = 3",
            "copy 2 0 0 MAX 1 = INDEX; copy 2 0 0 MIN 1 = INDEX; copy 2 0 0 MAX MAX = INDEX");
        run("35: INDEX: fewer than none", ROWS, "copy 0 0 0 0 -1 = INDEX; copy 0 1 0 1 -1 = INDEX",
            "copy 0 0 0 0 MIN = INDEX; copy 1 3 1 3 -3 = INDEX; copy 0 MIN 0 MIN MIN = INDEX");
        run("35: (or the same), as they were", "sheet 0 0 4; mark 0 0 1; mark 0 1 2; mark 0 2 3; mark 0 3 4",
            "copy 0 0 0 1 3 = 3; lay 0 2 0; item 0 0 = 1; item 0 1 = 1; item 0 2 = 2; item 0 3 = 3; copy 0 1 0 0 3 = 3",
            "lay 0 2 0; item 0 0 = 1; item 0 1 = 2; item 0 2 = 3; item 0 3 = 3; copy 0 0 0 0 4 = 4; lay 0 2 0",
            "item 0 3 = 3; item 0 0 = 1");
        run("35: all twenty-four", "sheet 0 1 24; sheet 3 1 24; mark 0 0 7; mark 0 23 NONE; copy 0 0 3 0 24 = 24",
            "copy 0 0 3 0 25 = INDEX; copy 0 24 3 24 0 = 0; copy 0 1 3 0 24 = INDEX; lay 0 2 3; item 0 0 = 7",
            "item 0 23 = KIND");
        run("35: rows of none", "sheet 0 0 0; sheet 1 0 0; copy 0 0 1 0 0 = 0; copy 0 0 1 0 1 = INDEX",
            "copy 0 1 1 0 0 = INDEX");
    }

    private static void copyOrder() {
        run("35: BAD: no such SHEET", ROWS, "copy -1 0 0 0 1 = BAD; copy 4 0 0 0 1 = BAD; copy 0 0 -1 0 1 = BAD",
            "copy 0 0 4 0 1 = BAD; copy MIN 0 0 0 1 = BAD; copy 0 0 MAX 0 1 = BAD; sheet 3 0 1; copy 3 0 0 0 1 = 1");
        run("35: BAD; NOTHING; KIND; INDEX: the first that stands", ROWS, "copy 2 0 4 0 1 = BAD; copy 4 0 2 0 1 = BAD",
            "copy 4 -1 1 9 -1 = BAD; copy 2 0 0 0 1 = NOTHING; copy 0 0 2 0 1 = NOTHING; copy 2 -1 3 -1 -1 = NOTHING",
            "copy 0 99 2 0 1 = NOTHING; copy 0 0 1 0 1 = KIND; copy 1 0 0 0 1 = KIND; copy 0 3 1 0 1 = KIND",
            "copy 0 0 1 0 -1 = KIND; copy 1 -1 0 -1 0 = KIND; copy 1 0 0 0 0 = KIND; copy 1 3 1 0 1 = INDEX");
    }

    private static void lay() {
        run("36: SLOTS 0 .. 4", "lay -1 3 0 = BAD; lay 5 3 0 = BAD; lay MIN 3 0 = BAD; lay MAX 3 0 = BAD",
            "lay -1 0 0 = BAD; lay 5 0 0 = BAD; lay 0 3 0 = 0; lay 4 3 0 = 0");
        run("36: thing 0 .. 3", TALK + ROWS, "lay 0 -1 0 = BAD; lay 0 4 0 = BAD; lay 0 MIN 0 = BAD; lay 0 MAX 0 = BAD",
            "lay 0 0 0 = 0; lay 0 1 0 = 0; lay 0 2 0 = 1; lay 0 3 0 = 2; lay 0 0 0 = 3; lay 0 0 0 = 0");
        run("36: BAD: k: no such TALK", TALK, "lay 0 3 7; lay 0 1 -1 = BAD; lay 0 1 1 = BAD; lay 0 1 MIN = BAD",
            "lay 0 1 MAX = BAD; lay 0 1 8 = BAD; lay 0 1 0 = 3");
        run("36: BAD: k: no such SHEET; NOTHING: that SHEET is MISSING", ROWS, "lay 0 3 7; lay 0 2 -1 = BAD",
            "lay 0 2 4 = BAD; lay 0 2 MIN = BAD; lay 0 2 MAX = BAD; lay 0 2 2 = NOTHING; lay 0 2 3 = NOTHING",
            "lay 5 2 3 = BAD; lay 0 2 1 = 3; lay 0 2 0 = 2; sheet 0 -1 0; lay 0 2 0 = NOTHING; item 0 1 = 2");
        run("36: any number; nothing of any k", "lay 0 3 MIN = 0; rest 0 10 = -8; lay 0 3 MAX = 3; rest 0 10 = 7",
            "lay 0 3 BAD = 3; rest 0 MIN = BAD; lay 0 3 NONE = 3; rest 0 MIN = NONE; lay 0 0 MIN = 3; lay 0 0 MAX = 0",
            "lay 0 0 -1 = 0; rest 0 1 = NOTHING");
        run("36: the last of eight TALKS", "2x person; 8x talk 1 0 1; lay 4 1 7 = 0; lay 4 1 8 = BAD; ask 4 1 = 10");
    }

    private static void ask() {
        run("37: BAD: no such SLOT; a KIND (0 .. 5)", TALK, "lay 4 1 0; ask -1 0 = BAD; ask 5 0 = BAD; ask MIN 0 = BAD",
            "ask MAX 0 = BAD; ask 4 -1 = BAD; ask 4 6 = BAD; ask 4 MIN = BAD; ask 4 MAX = BAD; ask 4 0 = 0",
            "ask 4 5 = KIND");
        run("37: BAD; NOTHING; KIND; NO: the first that stands", TALK + ROWS, "ask 0 6 = BAD; ask 0 -1 = BAD",
            "ask 0 0 = NOTHING; ask 0 5 = NOTHING; lay 0 3 0; ask 0 0 = KIND; ask 0 6 = BAD; lay 0 2 0; ask 0 0 = KIND",
            "ask 0 5 = KIND; lay 0 0 0; ask 0 0 = NOTHING");
        run("37: KIND ahead of NO", "keep; 2x person; talk 3 1 0; lay 0 1 0; back; ask 0 0 = NO; ask 0 1 = NO",
            "ask 0 3 = NO; ask 0 2 = KIND; ask 0 4 = KIND; ask 0 5 = KIND; ask 0 6 = BAD; person; ask 0 0 = NO",
            "ask 0 5 = KIND; person; ask 0 0 = 20");
        run("37: NO: p or q is nobody now: each by itself", "person; keep; 2x person; talk 0 0 2; talk 0 2 0",
            "talk 0 1 2; lay 0 1 0; lay 1 1 1; lay 2 1 2; back = 0; ask 0 0 = NO; ask 1 0 = NO; ask 2 0 = NO; person",
            "ask 0 0 = NO; ask 2 0 = NO; person; ask 0 0 = 0; ask 1 0 = 0; ask 2 0 = 0");
        run("37: nor of one under it: every KIND", "2x person; talk 0 0 1; talk 1 0 1; talk 2 0 1; talk 3 0 1",
            "talk 4 0 1; lay 0 1 0; lay 1 1 1; lay 2 1 2; lay 3 1 3; lay 4 1 4; ask 0 0 = 0; ask 0 1 = KIND",
            "ask 0 2 = KIND; ask 0 3 = KIND; ask 0 4 = KIND; ask 0 5 = KIND; ask 1 0 = 10; ask 1 1 = 10",
            "ask 1 2 = KIND; ask 1 3 = KIND; ask 1 4 = KIND; ask 1 5 = KIND; ask 2 0 = -5; ask 2 1 = KIND",
            "ask 2 2 = -5; ask 2 3 = KIND; ask 2 4 = KIND; ask 2 5 = KIND; ask 3 0 = 20; ask 3 1 = 20; ask 3 2 = KIND",
            "ask 3 3 = 20; ask 3 4 = KIND; ask 3 5 = KIND; ask 4 0 = -2; ask 4 1 = KIND; ask 4 2 = -2; ask 4 3 = KIND",
            "ask 4 4 = -2; ask 4 5 = KIND; turns 0 5; lay 0 1 0; ask 0 0 = 0; ask 0 5 = 0; ask 0 1 = KIND",
            "ask 0 2 = KIND; ask 0 3 = KIND; ask 0 4 = KIND");
        run("5: a TALK as it is then, for good: who talks, of which KIND; WORTH as it is now", TALK, "lay 0 1 0",
            "ask 0 3 = 0; turns 0 4; ask 0 3 = 0; ask 0 4 = KIND; set 1 0 10; ask 0 3 = 20; keep; lay 1 1 0",
            "ask 1 4 = 8; knows 0 1 2; ask 1 4 = 108; ask 0 3 = 0");
        run("5: ... though its number is another's", TALK, "keep; talk 2 1 0 = 1; lay 0 1 1; back; talk 1 0 1 = 1",
            "ask 0 2 = -25; ask 0 1 = KIND");
    }

    private static void item() {
        run("38: BAD: slot", "item -1 0 = BAD; item 5 0 = BAD; item MIN 0 = BAD; item MAX 0 = BAD; item 0 0 = NOTHING",
            "item 4 0 = NOTHING");
        run("38: INDEX", ROWS, "lay 0 2 0; item 0 -1 = INDEX; item 0 3 = INDEX; item 0 MIN = INDEX; item 0 MAX = INDEX",
            "item 0 24 = INDEX; item 0 0 = 1; item 0 2 = 3; sheet 3 0 24; lay 1 2 3; item 1 23 = 0; item 1 24 = INDEX",
            "sheet 3 0 0; lay 1 2 3; item 1 0 = INDEX");
        run("38: BAD; NOTHING; KIND; INDEX; KIND: the first that stands", TALK + ROWS, "item 5 -1 = BAD",
            "item 0 -1 = NOTHING; item 0 99 = NOTHING; lay 0 3 5; item 0 0 = KIND; item 0 -1 = KIND; lay 0 1 0",
            "item 0 0 = KIND; item 0 99 = KIND; lay 0 2 1; item 0 1 = KIND; item 0 3 = INDEX; item 0 -1 = INDEX",
            "item 0 2 = 3");
        run("5: a SHEET (a row of its own, as it was then)", ROWS, "lay 0 2 0; lay 4 2 1; mark 0 1 9; mark 1 1 9",
            "item 0 1 = 2; item 4 1 = KIND; sheet 0 -1 0; sheet 1 0 24; item 0 1 = 2; item 0 3 = INDEX; item 4 0 = 1",
            "item 4 3 = INDEX; lay 0 2 1 = 2; item 0 0 = 0; item 0 23 = 0; item 4 0 = 1");
        run("5: what a SLOT held before is gone", ROWS, "sheet 2 0 1; lay 0 2 0; lay 0 3 7; item 0 0 = KIND; lay 0 2 2",
            "item 0 1 = INDEX; item 0 0 = 0; rest 0 5 = KIND");
    }

    private static void rest() {
        run("39: BAD: slot", "rest -1 1 = BAD; rest 5 1 = BAD; rest MIN 1 = BAD; rest MAX 1 = BAD; rest 5 0 = BAD",
            "rest -1 0 = BAD; rest 0 1 = NOTHING; rest 4 1 = NOTHING");
        run("39: BAD; NOTHING; KIND; NO: the first that stands", TALK + ROWS, "rest 0 0 = NOTHING; lay 0 1 0",
            "rest 0 0 = KIND; rest 0 1 = KIND; lay 0 2 0; rest 0 0 = KIND; rest 0 1 = KIND; lay 0 3 7; rest 0 0 = NO",
            "rest 0 1 = 0; lay 0 3 0; rest 0 0 = NO; rest 0 5 = 0");
        run("39: / cuts towards 0: the rest has the number's sign", "lay 0 3 7; rest 0 3 = 1; rest 0 -3 = 1",
            "rest 0 7 = 0; rest 0 8 = 7; rest 0 -8 = 7; lay 0 3 -7; rest 0 3 = -1; rest 0 -3 = -1; rest 0 -7 = 0",
            "rest 0 8 = -7; rest 0 1 = 0; rest 0 -1 = 0");
        run("39: at the ends of the numbers", "lay 0 3 MIN; rest 0 -1 = 0; rest 0 1 = 0; rest 0 MIN = 0",
            "rest 0 MAX = -1; rest 0 10 = -8; rest 0 0 = NO; lay 0 3 MAX; rest 0 MIN = MAX; rest 0 MAX = 0",
            "rest 0 -1 = 0; rest 0 10 = 7; lay 0 3 -1; rest 0 MIN = -1; rest 0 MAX = -1");
        run("5: SLOTS, SHEETS are no part of AN IMAGE", ROWS, "lay 0 3 7; lay 1 2 0; keep; lay 0 3 8; lay 2 3 9",
            "mark 0 0 50; sheet 1 -1 0; back; rest 0 10 = 8; rest 2 10 = 9; item 1 0 = 1; lay 3 2 0; item 3 0 = 50",
            "reads 1 = NOTHING");
    }
}
