/**
 * The boundary cases of promises 1 to 12 and of part 1 of the terms, a run for
 * each sentence that names one.
 */
public final class EdgesFactsTest {
    private static final Due DUE = new Due();
    private static final String SIXTEEN = "16x fact 5 = 0..";

    public static void main(String[] args) {
        newObject();
        fact();
        factTold();
        set();
        person();
        personTold();
        knows();
        follows();
        price();
        deal();
        drawsByHand();
        seed();
        clock();
        DUE.end();
    }

    private static void run(String sentence, String... rows) {
        Script.run(DUE, sentence, rows);
    }

    private static void newObject() {
        run("1: As told; no FACTS, no PEOPLE",
            "count 0 = 0; count 1 = 0; count 2 = 0; count 3 = 0; count 4 = 0; count 5 = 0; count 6 = 0; count 7 = 0",
            "count 8 = 0; count 9 = 0; count 10 = 1; richest = NONE; fine = 0; why 0 = NONE; why 1 = NONE",
            "why 2 = NONE");
        run("1: As told; every call that names one is refused",
            "factTold 0 0 = BAD; set 0 0 0 = BAD; personTold 0 0 = BAD; knows 0 0 0 = BAD; follows 0 0 0 = BAD",
            "price 0 0 = BAD; talk 0 0 1 = BAD; told 0 0 = BAD; as 0 0 = BAD; turns 0 0 = BAD; say 0 = BAD",
            "fewest 0 0 0 -1 = BAD; look 0 0 = BAD; find 0 0 = BAD; keepsBack 0 = BAD; textTold 0 0 = BAD");
        run("1: As told; SHEETS are MISSING at first, SLOTS hold nothing",
            "pour 0 = NOTHING; pour 3 = NOTHING; reads 0 = NOTHING; reads 3 = NOTHING; mark 0 0 0 = NOTHING",
            "mark 3 0 0 = NOTHING; copy 0 0 3 0 0 = NOTHING; lay 0 2 0 = NOTHING; lay 4 2 3 = NOTHING; lay 0 1 0 = BAD",
            "ask 0 0 = NOTHING; ask 4 5 = NOTHING; item 0 0 = NOTHING; item 4 0 = NOTHING; rest 0 1 = NOTHING",
            "rest 4 0 = NOTHING; lay 0 0 0 = 0; lay 4 0 0 = 0");
        run("1: As told; no TAPE, no numbers that wait, no IMAGE",
            "trim 1 = BAD; trim 0 = 0; text = -100; check 1 = NO; back = NO; tell 0 = 1");
        run("1: As told; what needs nobody goes", "deal = 0; count 10 = 1; round = 0; market = 1; count 4 = 2",
            "keep = 0; back = 0; check 1 = 1");
    }

    private static void fact() {
        run("2: WORTH 0 .. 99", "fact -1 = BAD; fact MIN = BAD; fact 100 = BAD; fact MAX = BAD; count 0 = 0",
            "fact 0 = 0; fact 99 = 1; factTold 0 0 = 0; factTold 1 0 = 99; count 0 = 2");
        run("2: FACTS, 16 at most, numbered from 0", "15x fact 5 = 0..; count 0 = 15; fact 99 = 15; count 0 = 16",
            "fact 5 = FULL; fact 0 = FULL; fact 99 = FULL; count 0 = 16; factTold 15 0 = 99; factTold 16 0 = BAD");
        run("2: BAD; FULL: of both BAD stands first", SIXTEEN, "fact -1 = BAD; fact 100 = BAD; fact MIN = BAD",
            "fact MAX = BAD");
        run("2: a new FACT is FRESH till 999 and nobody KNOWS it, though its number was another's",
            "person; person; keep; fact 50 = 0; set 0 1 3 = 999; knows 1 0 1 = 0; knows 1 1 1 = 0; back = 0",
            "fact 6 = 0; factTold 0 0 = 6; factTold 0 1 = 999; factTold 0 3 = 0; personTold 1 0 = 0",
            "personTold 1 1 = 0");
        run("2: a FACT more changes nothing of what is known", "fact 1; person; knows 0 0 1; knows 0 1 1; fact 2 = 1",
            "personTold 0 0 = 1; personTold 0 1 = 1; factTold 1 3 = 0; factTold 0 3 = 1");
    }

    private static void factTold() {
        run("3: BAD: no such FACT", "fact 7; fact 8; factTold -1 0 = BAD; factTold MIN 0 = BAD; factTold 0 0 = 7",
            "factTold 1 0 = 8; factTold 2 0 = BAD; factTold 16 0 = BAD; factTold 32 0 = BAD; factTold MAX 0 = BAD");
        run("3: BAD: no such what", "fact 7; factTold 0 -1 = BAD; factTold 0 MIN = BAD; factTold 0 0 = 7",
            "factTold 0 3 = 0; factTold 0 4 = BAD; factTold 0 MAX = BAD; factTold 1 4 = BAD");
        run("3: TILL, the last HOUR in which it is FRESH", "fact 7; set 0 1 5; clock 4; factTold 0 2 = 1; clock 5",
            "factTold 0 2 = 1; clock 6; factTold 0 2 = 0; set 0 1 6; factTold 0 2 = 1");
        run("3: TILL 0, TILL 999", "fact 7; fact 8; set 0 1 0; factTold 0 2 = 1; clock 1; factTold 0 2 = 0",
            "factTold 1 1 = 999; clock 998; factTold 1 2 = 1; clock 999; factTold 1 2 = 1; set 1 1 998",
            "factTold 1 2 = 0");
        run("3: who KNOWS it: nobody, each, all", "fact 7; factTold 0 3 = 0; 8x person; factTold 0 3 = 0; knows 0 0 1",
            "factTold 0 3 = 1; knows 7 0 1; factTold 0 3 = 129; knows 1 0 1; knows 2 0 1; knows 3 0 1; knows 4 0 1",
            "knows 5 0 1; knows 6 0 1; factTold 0 3 = 255; knows 0 0 0; factTold 0 3 = 254");
        run("3: who KNOWS the sixteenth", SIXTEEN, "2x person; knows 1 0 32768; factTold 15 3 = 2; factTold 14 3 = 0");
    }

    private static void set() {
        run("4: WORTH 0 .. 99", "fact 5; set 0 0 -1 = BAD; set 0 0 MIN = BAD; set 0 0 100 = BAD; set 0 0 MAX = BAD",
            "set 0 0 0 = 5; set 0 0 99 = 0; set 0 0 99 = 99; factTold 0 0 = 99; factTold 0 1 = 999");
        run("4: TILL 0 .. 999", "fact 5; set 0 1 -1 = BAD; set 0 1 MIN = BAD; set 0 1 1000 = BAD; set 0 1 MAX = BAD",
            "set 0 1 0 = 999; set 0 1 999 = 0; set 0 1 100 = 999; factTold 0 1 = 100; factTold 0 0 = 5");
        run("4: BAD: no such FACT, no such what", "fact 5; set -1 0 1 = BAD; set 1 0 1 = BAD; set MIN 1 1 = BAD",
            "set MAX 1 1 = BAD; set 0 -1 1 = BAD; set 0 2 1 = BAD; set 0 MIN 1 = BAD; set 0 MAX 1 = BAD",
            "set 16 0 1 = BAD");
        run("4: of the last of sixteen", SIXTEEN, "set 15 0 7 = 5; set 15 1 8 = 999; set 16 0 7 = BAD",
            "factTold 15 0 = 7; factTold 15 1 = 8; factTold 14 0 = 5; factTold 14 1 = 999");
    }

    private static void person() {
        run("5: PEOPLE, 8 at most, numbered from 0", "7x person = 0..; count 1 = 7; person = 7; count 1 = 8",
            "person = FULL; person = FULL; count 1 = 8; personTold 7 0 = 0; personTold 8 0 = BAD");
        run("5: KNOWS a set of FACTS (none at first), NEEDS a set (none)", "2x fact 9; person; personTold 0 0 = 0",
            "personTold 0 1 = 0; keep; person = 1; knows 1 0 3; knows 1 1 3; back; person = 1; personTold 1 0 = 0",
            "personTold 1 1 = 0");
    }

    private static void personTold() {
        run("6: BAD: no such one, no such what", "2x person; personTold -1 0 = BAD; personTold 2 0 = BAD",
            "personTold MIN 0 = BAD; personTold MAX 0 = BAD; personTold 8 0 = BAD; personTold 1 -1 = BAD",
            "personTold 1 5 = BAD; personTold 1 MIN = BAD; personTold 1 MAX = BAD; personTold 1 0 = 0",
            "personTold 1 4 = 0");
        run("6: of one who KNOWS and NEEDS nothing", "3x fact 9; person; personTold 0 0 = 0; personTold 0 1 = 0",
            "personTold 0 2 = 0; personTold 0 3 = 0; personTold 0 4 = 0");
        run("6: of one who KNOWS and NEEDS all", "16x fact 99; person; knows 0 0 65535 = 0; knows 0 1 65535 = 0",
            "personTold 0 0 = 65535; personTold 0 1 = 65535; personTold 0 2 = 0; personTold 0 3 = 16",
            "personTold 0 4 = 1584");
        run("6: LACKS: what it NEEDS and does not KNOW", "3x fact 9; person; knows 0 0 3; knows 0 1 6",
            "personTold 0 2 = 4; knows 0 0 7; personTold 0 2 = 0; knows 0 0 0; personTold 0 2 = 6; knows 0 1 0",
            "personTold 0 2 = 0");
        run("6: LACKS counts what is stale too", "fact 9; person; knows 0 1 1; set 0 1 0; clock 1; personTold 0 2 = 1");
        run("6: NEWS: FRESH FACTS it KNOWS that nobody else does", "3x fact 9; 2x person; knows 0 0 7",
            "personTold 0 3 = 3; knows 1 0 1; personTold 0 3 = 2; personTold 1 3 = 0; set 1 1 4; clock 4",
            "personTold 0 3 = 2; clock 5; personTold 0 3 = 1; knows 1 0 7; personTold 0 3 = 0");
        run("6: NEWS among eight", "fact 9; 8x person; knows 7 0 1; personTold 7 3 = 1; knows 0 0 1",
            "personTold 7 3 = 0; personTold 0 3 = 0");
    }

    private static void knows() {
        run("7: BAD: also a set with FACTS that there are not: of none", "person; knows 0 0 0 = 0; knows 0 1 0 = 0",
            "knows 0 0 1 = BAD; knows 0 1 1 = BAD; knows 0 0 -1 = BAD; knows 0 1 MIN = BAD");
        run("7: BAD: also a set with FACTS that there are not: of fifteen", "15x fact 1; person; knows 0 0 32768 = BAD",
            "knows 0 0 32767 = 0; knows 0 0 65535 = BAD; knows 0 1 32768 = BAD; knows 0 1 32767 = 0",
            "personTold 0 0 = 32767; personTold 0 1 = 32767");
        run("7: BAD: also a set with FACTS that there are not: of sixteen", SIXTEEN, "person; knows 0 0 65535 = 0",
            "knows 0 0 65536 = BAD; knows 0 0 131071 = BAD; knows 0 0 -1 = BAD; knows 0 0 MIN = BAD",
            "knows 0 0 MAX = BAD; knows 0 1 65535 = 0; knows 0 1 65536 = BAD; knows 0 1 -65536 = BAD",
            "personTold 0 0 = 65535");
        run("7: BAD: no such one, no such what", "fact 1; 2x person; knows -1 0 1 = BAD; knows 2 0 1 = BAD",
            "knows MIN 0 0 = BAD; knows MAX 1 0 = BAD; knows 1 -1 1 = BAD; knows 1 2 1 = BAD; knows 1 MIN 0 = BAD",
            "knows 1 MAX 0 = BAD; knows 1 0 1 = 0; knows 1 1 1 = 0; personTold 0 0 = 0");
        run("7: from now on: what it was is not kept; what it was, with what FOLLOWED", "3x fact 1; person",
            "follows 0 0 2; knows 0 0 1 = 0; knows 0 0 2 = 5; personTold 0 0 = 2; knows 0 1 1 = 0; knows 0 1 0 = 1",
            "personTold 0 1 = 0");
        run("7: ... of the last of eight", "fact 1; 8x person; knows 7 0 1 = 0; knows 8 0 1 = BAD; personTold 7 0 = 1",
            "personTold 6 0 = 0");
    }

    private static void follows() {
        run("8: RULES, 8 at most", "2x fact 1; 7x follows 0 0 0 = 1..; count 3 = 7; follows 1 1 1 = 8; count 3 = 8",
            "follows 0 0 1 = FULL; count 3 = 8; person; knows 0 0 1; personTold 0 0 = 1");
        run("8: BAD; FULL: of both BAD stands first", "fact 1; 8x follows 0 0 0; follows 0 0 1 = BAD",
            "follows -1 0 0 = BAD");
        run("8: BAD: no such FACT, each by itself", "2x fact 1; follows -1 0 0 = BAD; follows 0 -1 0 = BAD",
            "follows 0 0 -1 = BAD; follows 2 0 0 = BAD; follows 0 2 0 = BAD; follows 0 0 2 = BAD",
            "follows MIN 0 0 = BAD; follows 0 MAX 0 = BAD; follows 0 0 MIN = BAD; follows 16 0 0 = BAD",
            "follows 0 32 0 = BAD; follows 0 0 33 = BAD; count 3 = 0; follows 1 1 1 = 1");
        run("8: of the sixteenth FACT", SIXTEEN, "person; follows 15 14 13 = 1; follows 16 0 0 = BAD; knows 0 0 49152",
            "personTold 0 0 = 57344; knows 0 0 32768; personTold 0 0 = 32768; knows 0 0 16384; personTold 0 0 = 16384");
        run("8: two FACTS (perhaps one)", "3x fact 1; 2x person; follows 1 1 0 = 1; knows 0 0 2; personTold 0 0 = 3",
            "knows 0 0 4; personTold 0 0 = 4");
        run("8: a FACT that FOLLOWS from itself", "2x fact 1; person; follows 0 1 0 = 1; follows 0 1 1 = 2",
            "knows 0 0 1; personTold 0 0 = 1; knows 0 0 2; personTold 0 0 = 2");
        run("8: who KNOWS both KNOWS it, again and again, against the rules' order", "9x fact 1; person",
            "follows 7 7 8 = 1; follows 6 6 7 = 2; follows 5 5 6 = 3; follows 4 4 5 = 4; follows 3 3 4 = 5",
            "follows 2 2 3 = 6; follows 1 1 2 = 7; follows 0 0 1 = 8; knows 0 0 1 = 0; personTold 0 0 = 511",
            "knows 0 0 16 = 511; personTold 0 0 = 496");
        run("8: at once: who KNOWS both already, all of them", "9x fact 1; 8x person; follows 7 7 8; follows 6 6 7",
            "follows 5 5 6; follows 4 4 5; follows 3 3 4; follows 2 2 3; follows 1 1 2; knows 0 0 1; knows 7 0 1",
            "knows 3 0 2; personTold 0 0 = 1; personTold 3 0 = 510; follows 0 0 1 = 8; personTold 0 0 = 511",
            "personTold 7 0 = 511; personTold 1 0 = 0; count 6 = 26");
        run("8: NEEDS do not FOLLOW", "2x fact 1; person; knows 0 1 1; follows 0 0 1; personTold 0 1 = 1",
            "knows 0 1 1 = 1; personTold 0 1 = 1; personTold 0 0 = 0");
    }

    private static void price() {
        run("9: BAD: no such FACT, no such one", "2x fact 7; 2x person; price -1 0 = BAD; price 2 0 = BAD",
            "price 0 -1 = BAD; price 0 2 = BAD; price MIN 0 = BAD; price MAX 0 = BAD; price 0 MIN = BAD",
            "price 0 MAX = BAD; price 1 1 = 7");
        run("9: without a TEXT: WORTH, and 100 if it is NEEDED by that one", "fact 0; fact 99; 2x person; knows 0 1 3",
            "price 0 0 = 100; price 0 1 = 0; price 1 0 = 199; price 1 1 = 99");
        run("9: held within 0 .. 999", "fact 7; person; law \"price 0\" = 0; price 0 0 = 0; law \"price 0-1\" = 1",
            "price 0 0 = 0",
            "law \"price 1\" = 2; price 0 0 = 1; law \"price 998\" = 3; price 0 0 = 998; law \"price 999\" = 4",
            "price 0 0 = 999; law \"price 1000\" = 5; price 0 0 = 999; law \"price 9999\" = 6; price 0 0 = 999",
            "law \"price 0-9999\" = 7; price 0 0 = 0");
        run("9: held behind the wrap", "fact 7; person; law \"price 9999*9999*30\"; price 0 0 = 0",
            "law \"price 8*8*8*8*8*8*8*8*8*8*2\"",
            "price 0 0 = 0; law \"price 8*8*8*8*8*8*8*8*8*8*2-1\"; price 0 0 = 999",
            "law \"price 8*8*8*8*8*8*8*8*8*8*4+5\"; price 0 0 = 5");
        run("9: of price w, n, k, each at both ends", "fact 0; fact 99; 8x person; knows 3 1 2; law \"price w\"",
            "price 0 0 = 0",
            "price 1 0 = 99; law \"price n\"; price 1 3 = 1; price 1 2 = 0; price 0 3 = 0; law \"price k\"",
            "price 0 0 = 0; knows 0 0 1; knows 1 0 1; knows 2 0 1; knows 3 0 1; knows 4 0 1; knows 5 0 1; knows 6 0 1",
            "price 0 7 = 7; knows 7 0 1; price 0 7 = 8; price 0 0 = 8; price 1 0 = 0");
        run("9: stale FACTS have a PRICE, too", "fact 7; person; set 0 1 0; clock 1; price 0 0 = 7");
        run("9: of the last ones", SIXTEEN, "8x person; set 15 0 77; knows 7 1 32768; price 15 7 = 177",
            "price 15 6 = 77; price 16 7 = BAD; price 15 8 = BAD");
    }

    private static void deal() {
        run("10: nobody: no draw", SIXTEEN, "deal = 0; count 10 = 1; seed -3 = 1; deal = 0; count 10 = -3");
        run("10: without FACTS that there are not: none are", "person; deal = 0; personTold 0 0 = 0",
            "personTold 0 1 = 0; count 10 = -1770082073");
        run("10: KNOWS becomes: what it was is gone", "fact 1; person; knows 0 0 1; knows 0 1 1; law \"look 5\"",
            "deal = 0; personTold 0 0 = 0; personTold 0 1 = 0; count 4 = 0; count 5 = 0; count 7 = 1; seed 4; deal = 1",
            "personTold 0 0 = 1; personTold 0 1 = 0; seed 5; deal = 0; personTold 0 0 = 0");
        run("10: what FOLLOWS from what is drawn is known, and counted", "2x fact 1; person; follows 0 0 1",
            "follows 1 1 0; seed 4; deal = 2; personTold 0 0 = 3");
    }

    /** z at its ends, where the multiplication wraps and z >>> 8 has no sign. */
    private static void drawsByHand() {
        int[] seeds = {0, 1, -1, Integer.MIN_VALUE, Integer.MAX_VALUE, 255, 256, -256, 65536};
        for (int seed : seeds) {
            for (int facts = 0; facts <= 16; facts += 8) {
                int all = (1 << facts) - 1;
                StringBuilder row = new StringBuilder();
                long z = seed;
                int sum = 0;
                for (int i = 0; i < 8; i++) {
                    z = (int) (z * 1103515245L + 12345L);
                    int known = (int) ((z & 0xffffffffL) / 256 % 65536) & all;
                    z = (int) (z * 1103515245L + 12345L);
                    int needed = (int) ((z & 0xffffffffL) / 256 % 65536) & all;
                    sum += Integer.bitCount(known);
                    row.append("personTold " + i + " 0 = " + known + "; personTold " + i + " 1 = " + needed + "; ");
                }
                String people = facts == 0 ? "8x person" : facts + "x fact 1; 8x person";
                run("10, 11: draws from " + seed + " on",
            people, "seed " + seed + " = 1; deal = " + sum, row.toString(),
                    "count 10 = " + z + "; count 6 = " + sum);
            }
        }
    }

    private static void seed() {
        run("11: z is told (1 at first); any", "seed MIN = 1; seed MAX = MIN; seed 0 = MAX; seed -1 = 0; seed BAD = -1",
            "seed NONE = BAD; count 10 = NONE");
    }

    private static void clock() {
        run("12: 0 .. 999", "clock -1 = BAD; clock MIN = BAD; clock 1000 = BAD; clock MAX = BAD; count 4 = 0",
            "clock 999 = 0; clock 1000 = BAD; clock -1 = BAD; clock 0 = 999; clock 0 = 0; clock 1 = 0; clock 998 = 1",
            "count 4 = 998");
    }
}
