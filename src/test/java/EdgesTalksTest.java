/**
 * The boundary cases of promises 13 to 19 and of parts 1 and 2 of the terms, a
 * run for each sentence that names one.
 */
public final class EdgesTalksTest {
    private static final Due DUE = new Due();
    /** 0 KNOWS a, worth 10; 1 KNOWS b, worth 30: a talk of 0 with 1 goes. */
    private static final String TWO = "fact 10; fact 30; 2x person; knows 0 0 1; knows 1 0 2;";
    private static final String OF_ALL_KINDS = "talk 0 0 1; talk 1 0 1; talk 2 0 1; talk 3 0 1; talk 4 0 1;"
        + "talk 5 0 1;";

    public static void main(String[] args) {
        talk();
        told();
        given();
        got();
        goes();
        worth();
        as();
        turns();
        say();
        sayByKinds();
        round();
        market();
        DUE.end();
    }

    private static void run(String sentence, String... rows) {
        Script.run(DUE, sentence, rows);
    }

    private static void talk() {
        run("13: TALKS, 8 at most, numbered from 0", "2x person; 7x talk 0 0 1 = 0..; count 2 = 7; talk 5 1 0 = 7",
            "count 2 = 8; talk 0 0 1 = FULL; talk 5 1 0 = FULL; count 2 = 8; told 7 0 = 5; told 7 1 = 1; told 7 2 = 0",
            "told 8 0 = BAD");
        run("13: BAD; FULL: of both BAD stands first", "2x person; 8x talk 0 0 1; talk 6 0 1 = BAD; talk -1 0 1 = BAD",
            "talk 0 1 1 = BAD; talk 0 2 1 = BAD; talk 0 0 -1 = BAD");
        run("13: BAD: no such KIND", "2x person; talk -1 0 1 = BAD; talk MIN 0 1 = BAD; talk 6 0 1 = BAD",
            "talk MAX 0 1 = BAD; talk 0 0 1 = 0; talk 5 0 1 = 1");
        run("13: BAD: nobody", "2x person; talk 0 -1 0 = BAD; talk 0 2 0 = BAD; talk 0 0 -1 = BAD; talk 0 0 2 = BAD",
            "talk 0 MIN 0 = BAD; talk 0 0 MAX = BAD; talk 0 8 0 = BAD; talk 0 0 8 = BAD; talk 0 2 2 = BAD",
            "count 2 = 0");
        run("13: BAD: also one who asks itself", "talk 0 0 1 = BAD; person; talk 0 0 0 = BAD; talk 0 0 1 = BAD; person",
            "talk 0 0 0 = BAD; talk 5 1 1 = BAD; talk 0 0 1 = 0; talk 0 1 0 = 1");
        run("13: between the first and the last of eight", "8x person; talk 0 7 0 = 0; talk 0 0 7 = 1",
            "talk 0 7 8 = BAD; talk 0 8 7 = BAD; told 0 1 = 7; told 0 2 = 0; told 1 1 = 0; told 1 2 = 7");
        run("13: the same one again", "2x person; talk 3 0 1 = 0; talk 3 0 1 = 1");
    }

    private static void told() {
        run("14: BAD: no such TALK, no such what", "2x person; told 0 0 = BAD; talk 0 0 1; told -1 0 = BAD",
            "told 1 0 = BAD; told MIN 0 = BAD; told MAX 0 = BAD; told 0 -1 = BAD; told 0 7 = BAD; told 0 MIN = BAD",
            "told 0 MAX = BAD; told 1 7 = BAD; told 8 0 = BAD; told 0 0 = 0; told 0 6 = 0");
        run("14: of a town without FACTS", "2x person;" + OF_ALL_KINDS, "told 0 3 = NONE; told 0 4 = NONE",
            "told 0 5 = 0; told 4 3 = NONE; told 4 4 = NONE; told 4 5 = 0; told 0 6 = 0; told 1 6 = 10; told 2 6 = -5",
            "told 3 6 = 20; told 4 6 = -2; told 5 6 = 0");
    }

    private static void given() {
        run("14: GIVEN: that p KNOWS and q doesn't: none", TWO, OF_ALL_KINDS, "knows 0 0 0; told 0 3 = NONE",
            "told 2 3 = NONE; knows 0 0 2; told 0 3 = NONE; told 2 3 = NONE; knows 1 0 3; knows 0 0 3; told 0 3 = NONE",
            "told 5 3 = NONE");
        run("14: GIVEN: that are FRESH, in the last HOUR and behind it", TWO, OF_ALL_KINDS, "set 0 1 7; clock 7",
            "told 0 3 = 0; told 2 3 = 0; clock 8; told 0 3 = NONE; told 2 3 = NONE; told 0 5 = 0; told 1 4 = NONE");
        run("14: the least PRICE for q; of several the least", "5x fact 50; 2x person; knows 0 0 30; talk 0 0 1",
            "talk 2 0 1; told 0 3 = 1; told 1 3 = 1; set 3 0 49; told 0 3 = 3; told 1 3 = 1; set 4 0 51; told 0 3 = 3",
            "told 1 3 = 4; set 4 0 49; told 0 3 = 3; set 2 0 49; told 0 3 = 2; told 1 3 = 1; knows 1 1 16",
            "told 1 3 = 4; knows 1 1 30; told 0 3 = 2; told 1 3 = 1");
        run("14: the PRICE for q, not for p", "fact 10; fact 20; 2x person; knows 0 0 3; talk 0 0 1; talk 2 0 1",
            "knows 0 1 1; told 0 3 = 0; told 1 3 = 1; knows 1 1 1; told 0 3 = 1; told 1 3 = 0");
        run("14: PRICES that are held are alike", "fact 9; fact 99; fact 0; 2x person; knows 0 0 7; talk 0 0 1",
            "talk 2 0 1",
            "law \"price w+990\"; told 0 3 = 2; told 1 3 = 0; law \"price 5-w\"; told 0 3 = 0; told 1 3 = 2",
            "law \"price w+999\"; told 0 3 = 0; told 1 3 = 0; law \"price 0-w\"; told 0 3 = 0; told 1 3 = 0");
        run("14: the sixteenth", "16x fact 50; 2x person; knows 0 0 32768; talk 0 0 1; talk 2 0 1; told 0 3 = 15",
            "told 1 3 = 15; knows 1 0 32768; told 0 3 = NONE; knows 0 0 65535; told 0 3 = 0");
    }

    private static void got() {
        run("14: GOT: that q KNOWS and p doesn't: none", TWO, OF_ALL_KINDS, "knows 1 0 0; told 0 4 = NONE",
            "told 4 4 = NONE; knows 1 0 1; told 0 4 = NONE; told 4 4 = NONE; knows 1 0 3; told 0 4 = 1; knows 0 0 3",
            "told 4 4 = NONE");
        run("14: GOT: that are FRESH, in the last HOUR and behind it", TWO, OF_ALL_KINDS, "set 1 1 7; clock 7",
            "told 0 4 = 1; told 4 4 = 1; clock 8; told 0 4 = NONE; told 4 4 = NONE; told 4 5 = 0");
        run("14: the greatest PRICE for p; of several the least", "5x fact 50; 2x person; knows 1 0 30; talk 0 0 1",
            "talk 4 0 1; told 0 4 = 1; told 1 4 = 1; set 3 0 51; told 0 4 = 3; told 1 4 = 3; set 2 0 51; told 0 4 = 2",
            "knows 0 1 16; told 0 4 = 4; told 1 4 = 4; knows 1 1 2; told 0 4 = 4");
        run("14: GOT with a PRICE of 0 is one", "fact 0; fact 0; 2x person; knows 0 0 1; knows 1 0 2;" + OF_ALL_KINDS,
            "told 0 4 = 1; told 1 4 = 1; told 2 4 = 1; told 3 4 = 1; told 4 4 = 1; told 5 4 = 1; told 1 5 = 1");
        run("14: FAIR: whose PRICE for p is not above that of GIVEN for q", "fact 20; fact 21; 2x person; knows 0 0 1",
            "knows 1 0 2",
            OF_ALL_KINDS, "told 1 4 = NONE; told 3 4 = NONE; told 0 4 = 1; told 2 4 = 1; told 5 4 = 1; set 1 0 20",
            "told 1 4 = 1; told 3 4 = 1; set 1 0 19; told 1 4 = 1; knows 0 1 2; told 1 4 = NONE; knows 1 1 1",
            "told 1 4 = 1; set 1 0 21; told 1 4 = NONE; told 3 4 = NONE");
        run("14: FAIR: likewise: the greatest of those; of several the least", "6x fact 20; 2x person; knows 0 0 1",
            "knows 1 0 62; talk 1 0 1; talk 3 0 1; told 0 4 = 1; set 1 0 19; told 0 4 = 2; set 2 0 21; told 0 4 = 3",
            "told 1 4 = 3; set 3 0 99; set 4 0 99; set 5 0 99; told 0 4 = 1; set 1 0 21; told 0 4 = NONE",
            "told 1 4 = NONE");
        run("14: FAIR: none without GIVEN", "fact 0; fact 0; 2x person; knows 1 0 3;" + OF_ALL_KINDS, "told 1 4 = NONE",
            "told 3 4 = NONE; told 0 4 = 0; told 2 4 = 0; told 4 4 = 0; told 5 4 = 0");
        run("14: the sixteenth", "16x fact 50; 2x person; knows 1 0 32768; talk 4 0 1; told 0 4 = 15; knows 0 0 32768",
            "told 0 4 = NONE");
    }

    private static void goes() {
        run("14: IT GOES, if there are both; of HERMIT, if there is GOT", TWO, OF_ALL_KINDS,
            "told 0 5 = 1; told 1 5 = 0; told 2 5 = 1; told 3 5 = 0; told 4 5 = 1; told 5 5 = 1; set 1 0 10",
            "told 1 5 = 1; told 3 5 = 1");
        run("14: IT GOES: GIVEN alone", TWO, OF_ALL_KINDS, "knows 1 0 0; told 0 5 = 0; told 1 5 = 0; told 2 5 = 0",
            "told 3 5 = 0; told 4 5 = 0; told 5 5 = 0");
        run("14: IT GOES: GOT alone", TWO, OF_ALL_KINDS, "knows 0 0 0; told 0 5 = 0; told 1 5 = 0; told 2 5 = 0",
            "told 3 5 = 0; told 4 5 = 1; told 5 5 = 0");
    }

    private static void worth() {
        run("14: WORTH: 0 for one that is none: no GIVEN", TWO, OF_ALL_KINDS, "knows 0 0 0; told 0 6 = 30",
            "told 1 6 = 10; told 2 6 = 25; told 3 6 = 20; told 4 6 = 28; told 5 6 = 1");
        run("14: WORTH: 0 for one that is none: no GOT", TWO, OF_ALL_KINDS, "knows 1 0 0; told 0 6 = -10; told 1 6 = 0",
            "told 2 6 = -15; told 3 6 = 0; told 4 6 = -2; told 5 6 = 1");
        run("14: WORTH at its ends", TWO, OF_ALL_KINDS, "law \"price 999\"; told 0 6 = 0; told 1 6 = 10; told 2 6 = -5",
            "told 3 6 = 20; told 4 6 = 997; knows 1 0 0; told 0 6 = -999; told 1 6 = -989; told 2 6 = -1004",
            "told 3 6 = -1978; told 4 6 = -2; knows 1 0 2; knows 0 0 0; told 0 6 = 999; told 2 6 = 994; told 4 6 = 997",
            "told 3 6 = 20");
        run("14: OPEN: how many FACTS p and q KNOW, together: none, all, stale ones too", "16x fact 1; 3x person",
            "talk 5 0 1; told 0 6 = 0; knows 2 0 65535; told 0 6 = 0; knows 0 0 65535; told 0 6 = 16; knows 1 0 65535",
            "told 0 6 = 32; set 0 1 0; clock 1; told 0 6 = 32; knows 0 0 0; told 0 6 = 16");
    }

    private static void as() {
        run("15: BAD: talk, kind", "2x person; as 0 0 = BAD; talk 0 1 0; as -1 0 = BAD; as 1 0 = BAD; as MIN 0 = BAD",
            "as MAX 0 = BAD; as 0 -1 = BAD; as 0 6 = BAD; as 0 MIN = BAD; as 0 MAX = BAD; as 0 0 = 1");
        run("15: KIND: it is not of that KIND, nor of one under it", "2x person;" + OF_ALL_KINDS,
            "as 0 0 = 0; as 0 1 = KIND; as 0 2 = KIND; as 0 3 = KIND; as 0 4 = KIND; as 0 5 = KIND; as 1 0 = 0",
            "as 1 1 = 0; as 1 2 = KIND; as 1 3 = KIND; as 1 4 = KIND; as 1 5 = KIND; as 2 0 = 0; as 2 1 = KIND",
            "as 2 2 = 0; as 2 3 = KIND; as 2 4 = KIND; as 2 5 = KIND; as 3 0 = 0; as 3 1 = 0; as 3 2 = KIND",
            "as 3 3 = 0; as 3 4 = KIND; as 3 5 = KIND; as 4 0 = 0; as 4 1 = KIND; as 4 2 = 0; as 4 3 = KIND",
            "as 4 4 = 0; as 4 5 = KIND; as 5 0 = 0; as 5 1 = KIND; as 5 2 = KIND; as 5 3 = KIND; as 5 4 = KIND",
            "as 5 5 = 0");
        run("15: p, the last of eight, of the last of eight", "8x person; 7x talk 0 0 1; talk 3 7 0; as 7 1 = 7",
            "as 8 1 = BAD; as 7 2 = KIND; as 7 6 = BAD; turns 7 4; as 7 1 = KIND; as 7 2 = 7");
    }

    private static void turns() {
        run("16: BAD: no such TALK, no such KIND", "2x person; turns 0 0 = BAD; talk 0 0 1; turns -1 0 = BAD",
            "turns 1 0 = BAD; turns MIN 0 = BAD; turns MAX 0 = BAD; turns 0 -1 = BAD; turns 0 6 = BAD",
            "turns 0 MIN = BAD; turns 0 MAX = BAD; told 0 0 = 0");
        run("16: from now on: what it was", TWO, "8x talk 0 0 1; turns 7 5 = 0; turns 7 5 = 5; turns 7 0 = 5",
            "turns 8 0 = BAD; turns 0 4 = 0; told 0 0 = 4; told 0 3 = NONE; told 1 0 = 0; told 7 0 = 0; count 2 = 8",
            "told 0 1 = 0; told 0 2 = 1");
    }

    private static void say() {
        run("17: BAD: no such TALK", "say 0 = BAD;" + TWO, "say 0 = BAD; talk 0 0 1; say -1 = BAD; say 1 = BAD",
            "say MIN = BAD; say MAX = BAD; say 8 = BAD; count 5 = 0; say 0 = 1");
        run("17: SAID (0 at first) is 1 more", TWO, "talk 0 0 1; count 5 = 0; say 0 = 1; count 5 = 1; count 4 = 0",
            "say 0 = 0; count 5 = 1; personTold 0 0 = 3; personTold 1 0 = 3");
        run("17: A TALK that does not GO does nothing: GIVEN alone, GOT alone, neither",
            TWO, OF_ALL_KINDS, "knows 1 0 0",
            "say 0 = 0; say 1 = 0; say 2 = 0; say 3 = 0; say 4 = 0; say 5 = 0; knows 1 0 2; knows 0 0 0; say 0 = 0",
            "say 1 = 0; say 2 = 0; say 3 = 0; say 5 = 0; knows 1 0 0; say 0 = 0; say 4 = 0; say 5 = 0; count 5 = 0",
            "count 6 = 0");
        run("17: at the last HOUR", TWO, "talk 0 0 1; clock 999; say 0 = 1; count 4 = 999; count 6 = 4");
        run("17: both as they were found ahead of it", "fact 10; fact 20; fact 90; 2x person; follows 0 1 2",
            "knows 0 0 1; knows 1 0 2; talk 0 0 1; told 0 4 = 1; say 0 = 1; personTold 0 0 = 7; personTold 1 0 = 7");
        run("17: what FOLLOWS is known at once, again and again", "10x fact 10; 2x person; follows 8 9 7",
            "follows 8 7 6; follows 8 6 5; follows 8 5 4; follows 8 4 3; follows 8 3 2; follows 8 2 1; follows 8 1 0",
            "knows 0 0 256; knows 1 0 512; talk 0 0 1; say 0 = 1; personTold 0 0 = 1023; personTold 1 0 = 1023");
        run("17: the last of eight TALKS", TWO, "8x talk 0 0 1; say 7 = 1; say 8 = BAD; say 0 = 0; say 7 = 0");
    }

    private static void sayByKinds() {
        run("17: CHAIN: the PERSON behind q by numbers (round)", "fact 10; fact 10; 8x person; knows 0 0 1",
            "knows 6 0 2; knows 7 0 2; talk 3 0 6; talk 3 0 7; keep; say 0 = 1; personTold 7 0 = 3; personTold 0 0 = 3",
            "personTold 1 0 = 0; back; knows 0 0 0; knows 1 0 1; talk 3 1 7 = 2; say 2 = 1; personTold 0 0 = 1",
            "personTold 1 0 = 3");
        run("17: CHAIN of two: the one behind q is p", "fact 10; fact 10; 2x person; knows 0 0 1; knows 1 0 2",
            "talk 3 0 1; talk 3 1 0; say 0 = 1; personTold 0 0 = 3; personTold 1 0 = 3; knows 0 0 1; knows 1 0 2",
            "say 1 = 1; count 6 = 4");
        run("17: CHAIN: the one behind KNOWS GIVEN alone, and what FOLLOWS; one who KNOWS it already",
            "4x fact 10; 3x person; follows 0 2 3; knows 0 0 1; knows 1 0 2; knows 2 0 4; talk 3 0 1; say 0 = 1",
            "personTold 2 0 = 13; personTold 1 0 = 3; personTold 0 0 = 3; knows 1 0 2; knows 0 0 1; say 0 = 1",
            "personTold 2 0 = 13; count 5 = 2");
        run("17: only CHAIN tells on", "fact 10; fact 10; 3x person; knows 0 0 1; knows 1 0 2;" + OF_ALL_KINDS, "keep",
            "say 0 = 1; personTold 2 0 = 0; back; say 1 = 1; personTold 2 0 = 0; back; say 2 = 1; personTold 2 0 = 0",
            "back; say 4 = 1; personTold 2 0 = 0; personTold 1 0 = 2; back; say 5 = 1; personTold 2 0 = 0; back",
            "say 3 = 1; personTold 2 0 = 1");
        run("17: OPEN: both KNOW all that either does, stale ones too", "6x fact 10; 2x person; knows 0 0 7",
            "knows 1 0 24; set 1 1 0; set 4 1 0; clock 1; talk 5 0 1; told 0 3 = 0; told 0 4 = 3; say 0 = 1",
            "personTold 0 0 = 31; personTold 1 0 = 31; say 0 = 0");
        run("17: OPEN: what FOLLOWS from both", "5x fact 10; 2x person; follows 0 1 2; follows 2 3 4; knows 0 0 1",
            "knows 1 0 10; talk 5 0 1; say 0 = 1; personTold 0 0 = 31; personTold 1 0 = 31");
        run("17: HERMIT: q KNOWS no more", TWO, "talk 4 0 1; say 0 = 1; personTold 1 0 = 2; personTold 0 0 = 3",
            "count 5 = 1; say 0 = 0");
    }

    private static void round() {
        run("18: NO: THE HOUR is 999", TWO, "talk 0 0 1; clock 999; round = NO; count 5 = 0; count 4 = 999; clock 998",
            "round = 1; count 4 = 999; count 5 = 1; round = NO");
        run("18: no TALKS, none that GOES", "round = 0; count 4 = 1; 2x person; talk 0 0 1; round = 0; count 4 = 2",
            "count 5 = 0");
        run("18: all eight", "16x fact 50; 8x person; knows 7 0 255; talk 4 0 7; talk 4 1 7; talk 4 2 7; talk 4 3 7",
            "talk 4 4 7; talk 4 5 7; talk 4 6 7; talk 4 0 7; round = 8; count 5 = 8; personTold 0 0 = 3",
            "personTold 6 0 = 1; count 4 = 1");
        run("18: each TALK, by numbers, if it GOES then", "fact 10; fact 20; 3x person; knows 0 0 1; knows 1 0 2",
            "talk 4 2 0; talk 4 0 1; talk 4 2 0; round = 3; personTold 2 0 = 3; round = 0; keep; knows 2 0 0",
            "knows 0 0 1; turns 0 0; round = 2; personTold 2 0 = 2");
        run("18: Then THE HOUR is 1 more: what is FRESH for the last time still goes", TWO, "talk 4 0 1; set 1 1 0",
            "round = 1; knows 0 0 1; round = 0; count 4 = 2");
    }

    private static void market() {
        run("19: till one in which none GOES (that counts, too)", TWO, "talk 0 0 1; market = 2; count 4 = 2",
            "count 5 = 1; market = 1; count 4 = 3");
        run("19: or THE HOUR is 999", "3x fact 9; 2x person; knows 1 0 7; talk 4 0 1; clock 999; market = 0",
            "count 4 = 999; personTold 0 0 = 0; clock 998; market = 1; count 4 = 999; personTold 0 0 = 1; clock 997",
            "market = 2; personTold 0 0 = 7; count 4 = 999; clock 997; market = 1; count 4 = 998; market = 1",
            "count 4 = 999; market = 0");
        run("19: from the first HOUR, the whole town, one FACT a ROUND", "16x fact 9; 2x person; knows 1 0 65535",
            "talk 4 0 1; market = 17; count 4 = 17; count 5 = 16; personTold 0 0 = 65535");
        run("19: it ends when what is left is stale", "3x fact 9; 2x person; knows 1 0 7; set 1 1 0; set 2 1 1",
            "talk 4 0 1; market = 3; personTold 0 0 = 5; clock 0; market = 2; personTold 0 0 = 7");
    }
}
