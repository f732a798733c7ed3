/**
 * The boundary cases of promises 40 to 44 and of part 5 of the terms, a run for
 * each sentence that names one.
 */
public final class EdgesRowsTest {
    private static final Due DUE = new Due();
    /** One FACT a ROUND goes from 1 to 0: 1 4; 1 5; 1 6; 0 6; 0 6 .. are told. */
    private static final String TOWN = "3x fact 9; 2x person; knows 1 0 7; talk 4 0 1;";

    public static void main(String[] args) {
        tell();
        check();
        checkWrong();
        checkLate();
        checkOrder();
        checkThirty();
        keep();
        back();
        imageAtItsEnds();
        count();
        lastCall();
        DUE.end();
    }

    private static void run(String sentence, String... rows) {
        Script.run(DUE, sentence, rows);
    }

    private static void tell() {
        run("40: FULL: 60 wait", "59x tell 7 = 1..; count 8 = 59; tell MIN = 60; count 8 = 60; tell 7 = FULL",
            "tell MAX = FULL; count 8 = 60");
        run("40: any number waits", "tell MIN = 1; tell MAX = 2; tell 0 = 3; tell NONE = 4; tell BAD = 5",
            "tell FULL = 6");
        run("40: none wait behind check, whatever is answered", "60x tell 7; check 1 = NO; tell 7 = 1; check 0 = BAD",
            "tell 7 = 1; keep; check 1 = 1; tell 7 = 1");
    }

    private static void check() {
        run("41: 0: they are THE ROUNDS TOLD", TOWN, "keep; tell 1; tell 4; check 1 = 0; count 8 = 0; tell 1; tell 4",
            "tell 1; tell 5; check 2 = 0; count 8 = 0; tell 1; tell 4; tell 1; tell 5; tell 1; tell 6; tell 0; tell 6",
            "check 4 = 0; count 4 = 0; count 5 = 0; count 6 = 3");
        run("41: of a town of nothing", "keep; tell 0; tell 0; check 1 = 0; tell 0; check 1 = 2; check 1 = 1; tell 0",
            "tell 0; tell 0; check 1 = 3");
        run("41: by THE IMAGE, not by what is now", TOWN, "keep; market = 4; turns 0 0; fact 1; set 0 1 0; clock 999",
            "tell 1; tell 4; check 1 = 0; count 4 = 999; count 6 = 6; told 0 0 = 0; back = 1; count 4 = 0; count 6 = 3",
            "told 0 0 = 4");
        run("41: by THE IMAGE's TEXTS: which FACT comes first, and what FOLLOWS from it", "fact 10; fact 20; 3x fact 9",
            "2x person; knows 1 0 3; follows 0 2 3; knows 0 0 4",
            "talk 4 0 1; law \"price 99-w\"; keep; law \"price w\"; tell 1; tell 5; tell 1; tell 6; check 2 = 0; back",
            "market = 3; count 6 = 6");
        run("41: by THE IMAGE's RULES", "3x fact 9; 2x person; knows 1 0 3; follows 0 1 2; law \"price k\"; talk 4 0 1",
            "keep; law \"price 9-k\"; follows 0 0 1; tell 1; tell 4; check 1 = 0; tell 1; tell 4; tell 1; tell 6",
            "check 2 = 0");
    }

    private static void checkWrong() {
        run("41: 1 and how many stand right ahead of the first that is not", TOWN, "keep; tell 0; tell 4; check 1 = 1",
            "tell 1; tell 3; check 1 = 2; tell 1; tell 4; tell 0; tell 5; check 2 = 3; tell 1; tell 4; tell 1; tell 6",
            "check 2 = 4; tell MIN; check 1 = 1; tell 1; tell MAX; check 1 = 2");
        run("41: ... or is missing", TOWN, "keep; check 1 = 1; tell 1; check 1 = 2; tell 1; tell 4; check 2 = 3",
            "tell 1; tell 4; tell 1; check 2 = 4; check 30 = 1; count 8 = 0");
        run("41: ... or one too many", TOWN, "keep; tell 1; tell 4; tell 1; check 1 = 3; tell 1; tell 4; tell 1",
            "tell 5; check 1 = 3; tell 1; tell 4; tell 1; tell 5; tell 1; check 2 = 5");
        run("41: the first of several", TOWN, "keep; tell 0; tell 0; tell 0; check 1 = 1; tell 1; tell 0; tell 0",
            "check 1 = 2; tell 1; tell 4; tell 0; check 2 = 3");
    }

    private static void checkLate() {
        run("41: fewer, if THE HOUR would be above 999: from 998 on", TOWN, "clock 998; keep; clock 0; tell 1; tell 4",
            "check 1 = 0; tell 1; tell 4; check 2 = 0; tell 1; tell 4; check 30 = 0; tell 1; tell 4; tell 1; tell 5",
            "check 2 = 3; count 4 = 0");
        run("41: from 997 on", TOWN, "clock 997; keep; tell 1; tell 4; tell 1; tell 5; check 2 = 0; tell 1; tell 4",
            "tell 1; tell 5; check 3 = 0; tell 1; tell 4; check 3 = 3; tell 1; tell 4; check 1 = 0");
        run("41: from 999 on: none", TOWN, "clock 999; keep; check 1 = 0; check 30 = 0; tell 0; check 1 = 1",
            "count 8 = 0; tell 1; tell 4; check 1 = 1");
        run("41: a FACT that is FRESH no more", TOWN, "set 0 1 4; set 1 1 4; set 2 1 4; clock 4; keep; tell 1; tell 4",
            "tell 0; tell 4; check 2 = 0");
    }

    private static void checkOrder() {
        run("41: of n (1 .. 30)", TOWN, "keep; check 0 = BAD; check -1 = BAD; check MIN = BAD; check 31 = BAD",
            "check MAX = BAD; check 1 = 1; check 30 = 1");
        run("41: BAD; NO: of both BAD stands first", "check 0 = BAD; check 31 = BAD; check -1 = BAD; check 1 = NO",
            "check 30 = NO");
        run("41: none do then, whatever is answered", "3x tell 0; check 0 = BAD; count 8 = 0; 3x tell 0",
            "check 31 = BAD; count 8 = 0; 3x tell 0; check 1 = NO; count 8 = 0; keep; 3x tell 0; check 1 = 3",
            "count 8 = 0; 2x tell 0; check 1 = 0; count 8 = 0");
    }

    private static void checkThirty() {
        String thirty = "tell 1; tell 4; tell 1; tell 5; tell 1; tell 6;" + "tell 0; tell 6;".repeat(26);
        run("41: thirty ROUNDS, sixty numbers", TOWN, "keep;" + thirty + "tell 0; tell 6 = 60; tell 0 = FULL",
            "check 30 = 0");
        run("41: thirty ROUNDS, the last is not", TOWN, "keep;" + thirty + "tell 0; tell 7 = 60; check 30 = 60");
        run("41: thirty ROUNDS, the last is missing", TOWN, "keep;" + thirty + "tell 0 = 59; check 30 = 60");
        run("41: twenty-nine ROUNDS, sixty numbers", TOWN, "keep;" + thirty + "tell 0; tell 6 = 60; check 29 = 59");
    }

    private static void keep() {
        run("42: how many TALKS: none, eight", "keep = 0; 2x person; talk 0 0 1; keep = 1; 7x talk 0 0 1; keep = 8",
            "back = 8; talk 0 0 1 = FULL");
        run("42: kept again, the one ahead of it is gone", "fact 1; keep; fact 2; keep; fact 3; back; count 0 = 2",
            "back; count 0 = 2");
        run("42: keep changes nothing of what is now", TOWN, "tell 1; feed 0 0 0; sheet 0 0 2; lay 0 3 7; keep = 1",
            "count 0 = 3; count 6 = 3; count 8 = 1; count 9 = 12; reads 0 = 1; rest 0 5 = 2");
    }

    private static void back() {
        run("43: NO: there is none", TOWN, "tell 1; feed 0 0 0; back = NO; count 0 = 3; count 8 = 1; keep; back = 1");
        run("43: (again and again)", TOWN, "keep; round = 1; back = 1; count 6 = 3; round = 1; market = 3; back = 1",
            "count 6 = 3; count 4 = 0; count 5 = 0; back = 1; tell 1; tell 4; check 1 = 0; back = 1");
        run("43: what became of it stays away from THE IMAGE", TOWN, "keep; back; knows 0 0 7; set 0 0 50; set 0 1 0",
            "turns 0 0; follows 0 0 1; fact 1; person; talk 0 0 1; law \"fine 1\"; seed 5; clock 5; back = 1",
            "personTold 0 0 = 0; factTold 0 0 = 9; factTold 0 1 = 999; told 0 0 = 4; count 0 = 3; count 1 = 2",
            "count 2 = 1; count 3 = 0; count 4 = 0; count 7 = 0; count 10 = 1");
        run("43: all but SHEETS, SLOTS, numbers that wait, THE TAPE", TOWN, "keep; sheet 0 0 1; mark 0 0 5; lay 0 3 7",
            "tell 1; tell 4; tape \"fine 6\"; back = 1; lay 1 2 0; item 1 0 = 5; rest 0 10 = 7; count 8 = 2",
            "count 9 = 6; check 1 = 0; text = 0; fine = 6");
    }

    private static void imageAtItsEnds() {
        run("43: a full town, and back", "16x fact 9; 8x person; 8x talk 0 0 1; 8x follows 0 0 0; keep = 8; back = 8",
            "fact 9 = FULL; person = FULL; talk 0 0 1 = FULL; follows 0 0 0 = FULL");
        run("43: an empty town behind a full one", "keep = 0; 16x fact 9; 8x person; 8x talk 0 0 1; 8x follows 0 0 0",
            "knows 7 0 65535; back = 0; count 0 = 0; count 6 = 0; fact 1 = 0; person = 0; personTold 0 0 = 0",
            "talk 0 0 1 = BAD; follows 0 0 0 = 1; knows 0 0 2 = BAD; richest = 0");
        run("43: TALKS: KIND, p, q, by numbers", "3x person; talk 1 2 1; talk 2 1 0; keep = 2; turns 0 5; turns 1 4",
            "back = 2; told 0 0 = 1; told 0 1 = 2; told 0 2 = 1; told 1 0 = 2; told 1 1 = 1; told 1 2 = 0; keep",
            "check 1 = 1; back; as 0 1 = 2; as 1 2 = 1");
        run("43: TALKS whose numbers were others'", "3x person; keep = 0; talk 1 2 1; talk 2 1 0; back = 0",
            "talk 3 1 2 = 0; keep = 1; talk 4 0 1; back = 1; told 0 0 = 3; told 0 1 = 1; told 0 2 = 2; count 2 = 1",
            "told 1 0 = BAD");
        run("41: TALKS of others than the first", "2x fact 9; 3x person; knows 0 0 3; knows 2 0 3; talk 4 1 2; keep",
            "tell 1; tell 5; tell 1; tell 6; tell 0; tell 6; check 3 = 0");
        run("43: SAID, THE HOUR, z", TOWN, "clock 990; seed MIN; say 0; keep; say 0; seed 3; market; deal; back",
            "count 4 = 990; count 5 = 1; count 10 = MIN; count 6 = 4; personTold 0 1 = 0");
    }

    private static void count() {
        run("44: BAD", "count -1 = BAD; count 11 = BAD; count MIN = BAD; count MAX = BAD; count 0 = 0; count 10 = 1");
        run("44: each at its most", "16x fact 9; 8x person; 8x talk 0 0 1; 8x follows 0 0 0; clock 999; 60x tell 0",
            "8x feed 0 0 0; seed MAX; knows 0 0 65535; knows 1 0 65535; knows 2 0 65535; knows 3 0 65535",
            "knows 4 0 65535; knows 5 0 65535; knows 6 0 65535; knows 7 0 65535; count 0 = 16; count 1 = 8",
            "count 2 = 8; count 3 = 8; count 4 = 999; count 5 = 0; count 6 = 128; count 7 = 0; count 8 = 60",
            "count 9 = 96; count 10 = MAX");
        run("44: FACTS that all KNOW, together: one by one, stale ones too", "2x fact 9; 2x person; count 6 = 0",
            "knows 0 0 1; count 6 = 1; knows 1 0 3; count 6 = 3; set 0 1 0; clock 1; count 6 = 3; knows 0 0 0",
            "count 6 = 2");
    }

    /** What is promised holds till the 512th call, a text or a market in each. */
    private static void lastCall() {
        DUE.promise("an object is used for at most 512 calls");
        HeronTalk x = new HeronTalk();
        x.keep();
        int calls = 1;
        while (calls + 4 < Script.MOST_CALLS) {
            x.feed(0x66696e65, 0x20736868, 0x20202020);
            x.trim(6);
            DUE.is("text()", x.text(), 0);
            DUE.is("back()", x.back(), 0);
            calls += 4;
        }
        DUE.is("market()", x.market(), 1);
        DUE.is("person()", x.person(), 0);
        DUE.is("count(1), the 512th", x.count(1), 1);
        DUE.is("so many calls", calls + 3, Script.MOST_CALLS);
    }
}
