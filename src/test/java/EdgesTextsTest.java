/**
 * The boundary cases of promises 26 to 30 and of part 4 of the terms, a run for
 * each sentence that names one.
 */
public final class EdgesTextsTest {
    private static final Due DUE = new Due();

    public static void main(String[] args) {
        feed();
        trim();
        text();
        usedUp();
        keys();
        numbers();
        names();
        grammar();
        ends();
        openSigns();
        blanks();
        otherBytes();
        values();
        theOneToldLast();
        textTold();
        why();
        DUE.end();
    }

    private static void run(String sentence, String... rows) {
        Script.run(DUE, sentence, rows);
    }

    /** Each text, then what text() is to answer, on an object of its own. */
    private static void laws(String sentence, Object... pairs) {
        for (int i = 0; i + 1 < pairs.length; i += 2) {
            run(sentence + ", \"" + pairs[i] + "\"", "law \"fine 77\" = 0",
            "law \"" + pairs[i] + "\" = " + pairs[i + 1],
                "count 9 = 0; count 7 = " + ((Integer) pairs[i + 1] < 0 ? 1 : 2));
        }
    }

    /** Each text of fine without its key, then what it gives. */
    private static void gives(String sentence, Object... pairs) {
        for (int i = 0; i + 1 < pairs.length; i += 2) {
            run(sentence + ", " + pairs[i], "law \"fine " + pairs[i] + "\" = 0; fine = " + pairs[i + 1]);
        }
    }

    private static String many(String sign, int n) {
        return sign.repeat(n);
    }

    private static void feed() {
        run("26: 96 bytes at most", "feed 0 0 0 = 12; feed 0 0 0 = 24; feed 0 0 0 = 36; feed 0 0 0 = 48",
            "feed 0 0 0 = 60; feed 0 0 0 = 72; feed 0 0 0 = 84; count 9 = 84; feed 0 0 0 = 96; count 9 = 96",
            "feed 0 0 0 = FULL; feed MIN MAX -1 = FULL; count 9 = 96");
        run("26: FULL: it would have more than 96", "8x feed 0 0 0; trim 85 = 85; feed 0 0 0 = FULL; count 9 = 85",
            "trim 84 = 84; feed 0 0 0 = 96; trim 95; feed 0 0 0 = FULL; trim 1; feed 0 0 0 = 13");
        run("26: FULL: what is there stays",
            "tape \"fine 1" + many("+1", 45) + "\"; feed 0 0 0 = FULL; text = 0; fine = 46",
            "tape \"fine 7" + many(" ", 79) + "\"; count 9 = 85; feed 0 0 0 = FULL; text = 1; fine = 7");
        run("26: the highest of each number first", "feed 0x66696e65 0x20322b33 0x2a342d35; text = 0; fine = 9",
            "feed 0x66696e65 0x20303132 0x33202020; text = 1; fine = 123");
        run("26: bytes of 128 and above are bytes", "feed 0x66696e65 0x20318020 0x20202020; text = -106; feed -1 -1 -1",
            "text = -100; feed 0x66696e65 0x2031ff00 0; text = -106; feed 0x66696e65 0xa0312020 0; text = -104",
            "feed MIN 0 0; text = -100; feed 0xe6696e65 0x20312020 0x20202020; text = -100");
        run("26: bytes come behind those that are there", "feed 0x66696e65 0x20313233 0x34353637; trim 7",
            "feed 0x2b332020 0x20202020 0x20202020 = 19; text = 0; fine = 15; feed 0x66696e65 0x20313233 0x34353637",
            "trim 7; feed 0x38392020 0x20202020 0x20202020 = 19; text = 1; fine = 1289");
    }

    private static void trim() {
        run("27: BAD: below 0, beyond its bytes", "trim -1 = BAD; trim 1 = BAD; trim MIN = BAD; trim MAX = BAD",
            "trim 0 = 0; feed 0 0 0; trim 13 = BAD; trim -1 = BAD; trim 96 = BAD; trim MIN = BAD; trim MAX = BAD",
            "trim 12 = 12; trim 11 = 11; trim 12 = BAD; trim 0 = 0; trim 1 = BAD; count 9 = 0");
        run("27: of a full TAPE", "8x feed 0 0 0; trim 97 = BAD; trim 96 = 96; trim 95 = 95; trim 96 = BAD",
            "count 9 = 95");
        run("27: its first n bytes", "feed 0x66696e65 0x20313233 0x34353637; trim 7 = 7; text = 0; fine = 12",
            "feed 0x66696e65 0x20313233 0x34353637; trim 4 = 4; text = -104");
    }

    private static void text() {
        run("28: TEXTS, 14 at most, numbered from 0", fourteen(), "count 7 = 14; law \"fine 99\" = FULL; count 7 = 14",
            "count 9 = 0",
            "fine = 13; why 2 = 13; textTold 13 0 = 2; textTold 14 0 = BAD; law \"price 3\" = FULL; why 0 = NONE");
        run("28: -100 less the place of its FAULT; FULL: of both the FAULT stands first",
            fourteen(), "law \"fine x\" = -105",
            "text = -100; law \"fine 1\" = FULL; law \"fine 1+\" = -107; count 7 = 14");
        run("28: behind FULL an IMAGE makes room", "keep", fourteen(), "law \"fine 2\" = FULL; back; count 7 = 0",
            "fine = 0; law \"fine 3\" = 0; fine = 3; textTold 1 0 = BAD");
        run("28: a TEXT as long as THE TAPE", "law \"fine 1" + many("+1", 45) + "\" = 0; fine = 46; textTold 0 1 = 46",
            "law \"fine 11" + many("+1", 44) + "+\" = -196; law \"fine " + many(" ", 90) + "8\" = 1; fine = 8",
            "law \"" + many(" ", 90) + "fine 8\" = 2; law \"" + many(" ", 96) + "\" = -196",
            "law \"fine" + many(" ", 92) + "\" = -196");
    }

    private static String fourteen() {
        return upToFourteen(0);
    }

    private static String upToFourteen(int first) {
        StringBuilder row = new StringBuilder();
        for (int i = first; i < 14; i++) {
            row.append("law \"fine " + i + "\" = " + i + ";");
        }
        return row.toString();
    }

    private static void usedUp() {
        run("4: an act that reads it uses it up, whatever it answers", "tape \"fine 1\"; text = 0; count 9 = 0",
            "text = -100; tape \"x\"",
            "text = -100; count 9 = 0; tape \"fine 1 2\"; text = -107; count 9 = 0; text = -100; count 7 = 1",
            "fine = 1");
        run("4: ... FULL, too", fourteen(), "tape \"fine 1\"; count 9 = 6; text = FULL; count 9 = 0; text = -100");
        run("4: what a FAULT leaves is nothing", "law \"fine ((1+!(2*\" = -113; law \"fine 1)\" = -106",
            "law \"fine 5\" = 0; fine = 5",
            "law \"fine !\" = -106; law \"fine 5\" = 1; fine = 5; law \"fine !!!!!!!!\" = -113",
            "law \"fine !!!!!!!!5\" = 2; fine = 1",
            "law \"fine ((((((((\" = -113; law \"fine ((((((((6))))))))\" = 3; fine = 6; law \"fine 1<\" = -107",
            "law \"fine 1<2\" = 4; fine = 1");
        run("4: what a FAULT leaves is nothing: NUMBERS and NAMES", "law \"fine 1+2)\" = -108; law \"fine 5\" = 0",
            "textTold 0 1 = 1; law \"price 1+2+3+\" = -112; law \"look 4\" = 1; textTold 1 1 = 1; textTold 1 0 = 1");
    }

    private static void keys() {
        laws("4: KEY E; the end, if it comes too soon",
            "", -100, " ", -101, "price", -105, "look", -104, "fine", -104, "price ", -106, "look  ", -106);
        laws("4: KEY: price | look | fine",
            "price 1", 1, "look 1", 1, "fine 1", 1, "pric 1", -100, "prices 1", -100, "loo 1", -100, "looks 1", -100,
            "fin 1", -100, "fines 1", -100, "pricf 1", -100, "lool 1", -100, "finf 1", -100, "Fine 1", -100,
            "FINE 1", -100, "rate 1", -100, "1", -100, "+", -100, "w", -100, "(fine 1)", -100, " fin 1", -101,
            "  1", -102, "f", -100, "xine 1", -100, "gine 1", -100, "finea 1", -100, "finez 1", -100, "afine 1", -100,
            "fi ne 1", -100, "price price", -106, "fine look", -105);
        laws("4: a word right behind another one needs a blank",
            "fine1", -104, "price0", -105, "look12345", -104, "fine(1)", 1, "fine!1", 1, "fines", -100, "pricew", -100,
            "price(w)", 1, "look!k", 1);
    }

    private static void numbers() {
        laws("4: NUMBER (1 to 4 digits)",
            "fine 0", 1, "fine 9", 1, "fine 0000", 1, "fine 9999", 1, "fine 00000", -105, "fine 12345", -105,
            "fine 10000", -105, "fine 1+12345", -107, "fine (99999)", -106, "fine " + many("9", 91), -105,
            "fine 1234 5", -110);
        gives("4: NUMBER",
            "0", 0, "0007", 7, "0010", 10, "1000", 1000, "9999", 9999, "0", 0);
        laws("4: no sign ahead of a NUMBER",
            "fine -1", -105, "fine +1", -105, "fine (-1)", -106, "fine 2*-1", -107);
        laws("4: a word of digits ends where they do",
            "fine 1w", -106, "fine 1s", -106, "fine s1", -106, "fine 1 1", -107, "fine 1(", -106, "fine 1.5", -106);
    }

    private static void names() {
        laws("4: NAMES of price: w, n, k",
            "price w", 1, "price n", 1, "price k", 1, "price s", -106, "price h", -106, "price a", -106,
            "price z", -106, "price W", -106);
        laws("4: NAMES of look: w, k",
            "look w", 1, "look k", 1, "look n", -105, "look s", -105, "look h", -105, "look x", -105);
        laws("4: NAMES of fine: s, h",
            "fine s", 1, "fine h", 1, "fine w", -105, "fine n", -105, "fine k", -105, "fine a", -105);
        laws("4: NAMES, each one letter",
            "price ww", -106, "price wn", -106, "fine sh", -105, "fine s h", -107, "fine ss+1", -105,
            "price w w", -108, "price 1+wk", -108);
    }

    private static void grammar() {
        laws("4: OR: AND { | AND }; AND: TEST { & TEST }",
            "fine 1|2|3", 1, "fine 1&2&3", 1, "fine 1|2&3|4", 1, "fine |1", -105, "fine &1", -105, "fine 1||2", -107,
            "fine 1&&2", -107, "fine 1|", -107, "fine 1&", -107, "fine 1|&2", -107);
        laws("4: TEST: SUM [ (< | = | >) SUM ]: one at most",
            "fine 1<2", 1, "fine 1=2", 1, "fine 1>2", 1, "fine 1<2<3", -108, "fine 1=2=3", -108, "fine 1>2<3", -108,
            "fine 1<2+3>4", -110, "fine (1<2)<3", 1, "fine 1<(2<3)", 1, "fine (1<2<3)", -109, "fine 1<2&3<4", 1,
            "fine 1<2&3<4<5", -112, "fine 1<2|3<4=5", -112, "fine 1<=2", -107, "fine 1==2", -107, "fine <1", -105,
            "fine 1<", -107, "fine !1<2", 1, "fine !(1<2)<3", 1, "fine 1<2&(3<4)<5", 1, "fine 1<2&(3<4)<5<6", -116,
            "fine 1<(2<3)<4", -112, "fine 1*2<3*4<5", -112);
        laws("4: SUM, TERM: both sides",
            "fine 1+2-3", 1, "fine 1*2/3", 1, "fine 1++2", -107, "fine 1**2", -107, "fine 1+*2", -107, "fine *1", -105,
            "fine /1", -105, "fine 1/", -107, "fine 1-", -107, "fine 1+-2", -107);
        laws("4: PIECE: NUMBER | NAME | ! PIECE | ( E )",
            "fine ()", -106, "fine !", -106, "fine !)", -106, "fine !+1", -106, "fine 1!", -106, "fine 1!1", -106,
            "fine (1)(1)", -108, "fine 1(1)", -106, "fine (1)1", -108, "fine (1)!1", -108, "fine (1)s", -108,
            "fine (1", -107, "fine 1)", -106, "fine (1))", -108, "fine )", -105, "fine !(1)", 1, "fine (!1)", 1,
            "fine (1+)", -108, "fine ((1)", -109, "fine !!", -107);
    }

    private static void ends() {
        laws("4: the end (the place behind the last byte), if it comes too soon",
            "fine 1+", -107, "fine 1+ ", -108, "fine (1 ", -108, "fine ! ", -107, "fine  ", -106, "fine (((1)) ", -112,
            "fine 1+   ", -110, "fine", -104, "fine (1+2", -109, "fine (", -106, "fine 1<  ", -109);
    }

    private static void openSigns() {
        laws("4: the ninth ( that would be open within others",
            "fine " + many("(", 8) + "1" + many(")", 8), 1, "fine " + many("(", 9) + "1" + many(")", 9), -113,
            "fine " + many("(", 8) + "1" + many(")", 7), -121, "fine " + many("(", 8) + "1" + many(")", 9), -122,
            "fine " + many("(1)+", 12) + "(1)", 1, "fine " + many("(", 7) + "1+(2)+(3)+(4)" + many(")", 7), 1,
            "fine " + many("(", 7) + "1+((2))" + many(")", 7), -115,
            "fine (1)+" + many("(", 8) + "1" + many(")", 8), 1, "fine (1)+" + many("(", 9), -117,
            "fine " + many("(1+", 8) + "1" + many(")", 8), 1, "fine " + many("(1+", 9), -129);
        laws("4: the ninth ! likewise",
            "fine " + many("!", 8) + "1", 1, "fine " + many("!", 9) + "1", -113, "fine " + many("!", 8), -113,
            "fine " + many("! ", 9) + "1", -121, "fine !1+" + many("!", 8) + "1", 1,
            "fine " + many("!1+", 20) + "1", 1, "fine !1+" + many("!", 9) + "1", -116);
        laws("4: the ninth ! within brackets that a ! is ahead of",
            "fine !(" + many("!", 7) + "1)", 1, "fine !(" + many("!", 8) + "1)", -114,
            "fine !(1)+" + many("!", 8) + "1", 1, "fine !(1+" + many("!", 7) + "1)+" + many("!", 8) + "2", 1,
            "fine (!1+" + many("!", 8) + "1)", 1, "fine !(!(!1+!1)+" + many("!", 8) + "1)", -123,
            "fine !(!(!1+!1)+" + many("!", 7) + "1)", 1, "fine !!(!(1)+" + many("!", 6) + "1)", 1,
            "fine !!(!(1)+" + many("!", 7) + "1)", -119);
        laws("4: each by itself",
            "fine " + many("!(", 8) + "1" + many(")", 8), 1, "fine " + many("!(", 8) + "!1", -121,
            "fine " + many("!(", 8) + "(1", -121, "fine " + many("(", 8) + many("!", 8) + "1" + many(")", 8), 1,
            "fine " + many("(", 8) + many("!", 9), -121, "fine " + many("!", 8) + many("(", 8) + "1" + many(")", 8), 1,
            "fine " + many("!", 8) + many("(", 9), -121);
    }

    private static void blanks() {
        laws("4: there may be blanks between words and signs, and at the ends",
            " fine 1", 1, "fine 1 ", 1, "  fine  1  ", 1, "fine ( 1 + 2 ) * ! 3 < 4 & 5 | 6", 1,
            "fine(1+2)*!3<4&5|6", 1, "   fine   ( ( 1 ) )   ", 1);
        laws("4: none within a word",
            "fi ne 1", -100, "fine 1 2", -107, "fine 12 34", -108, "look w k", -107, "pri ce 1", -100);
    }

    private static void otherBytes() {
        laws("4: any other byte is a sign by itself",
            "fine 1\t", -106, "fine\t1", -104, "\tfine 1", -100, "fine 1\n", -106, "fine 1\u0000", -106,
            "fine \u0000", -105, "\u0000", -100, "fine 1%2", -106, "fine 1^2", -106, "fine 1~", -106, "fine [1]", -105,
            "fine 1,2", -106, "fine 1\u00a0", -106, "fine \u00ff", -105, "\u0080fine 1", -100, "fine\u00e9 1", -104,
            "fine `", -105, "fine {", -105, "fine /", -105, "fine :", -105, "fine @", -105, "fine 1?", -106,
            "fineA 1", -104, "fine_1", -104, "Aine 1", -100, "fine 1A", -106, "fine sA", -106, "fine As", -105,
            "fine '", -105, "fine #", -105, "fine $", -105);
    }

    private static void values() {
        gives("4: / cuts towards 0, and is 0 by 0",
            "7/2", 3, "(0-7)/2", -3, "7/(0-2)", -3, "(0-7)/(0-2)", 3, "1/2", 0, "(0-1)/2", 0, "7/0", 0, "0/0", 0,
            "(0-7)/0", 0, "7/(3-3)", 0, "5+7/0", 5, "0/7", 0, "7/0/0", 0);
        gives("4: Ints wrap",
            "9999*9999*9999", (int) (9999L * 9999 * 9999), "8*8*8*8*8*8*8*8*8*8*2", Integer.MIN_VALUE,
            "8*8*8*8*8*8*8*8*8*8*2-1", Integer.MAX_VALUE, "8*8*8*8*8*8*8*8*8*8*4", 0,
            "0-8*8*8*8*8*8*8*8*8*8*2", Integer.MIN_VALUE, "8*8*8*8*8*8*8*8*8*8*2/(0-1)", Integer.MIN_VALUE,
            "(8*8*8*8*8*8*8*8*8*8*2-1)+1", Integer.MIN_VALUE, "8*8*8*8*8*8*8*8*8*8*2<0", 1,
            "8*8*8*8*8*8*8*8*8*8*2-1>0", 1);
        gives("4: tests give 1 or 0",
            "1<2", 1, "2<2", 0, "3<2", 0, "1=2", 0, "2=2", 1, "3=2", 0, "1>2", 0, "2>2", 0, "3>2", 1, "(0-1)<0", 1,
            "0>(0-1)", 1, "(1<2)+(3>2)", 2);
        gives("4: & | ! give 1 or 0 (what is not 0 is true)",
            "0&0", 0, "0&2", 0, "2&0", 0, "2&4", 1, "0|0", 0, "0|2", 1, "2|0", 1, "2|4", 1, "!0", 1, "!1", 0, "!9", 0,
            "!(0-1)", 0, "(0-1)&(0-2)", 1, "(0-1)|0", 1, "!!9", 1, "!!0", 0, "1|7/0", 1, "0&7/0", 0, "2&4&8", 1,
            "2&4&0", 0, "0|0|8", 1);
        gives("4: the loosest first",
            "1|1&0", 1, "(1|1)&0", 0, "0&0|1", 1, "1&2<1", 0, "(1&2)<2", 1, "1<1+1", 1, "2=1+1", 1, "1+2*3", 7,
            "(1+2)*3", 9, "!0+1", 2, "!(0+1)", 0, "!0*5", 5, "!1=0", 1, "2*!0", 2);
        gives("4: from the left",
            "9-3-2", 4, "9-(3-2)", 8, "80/8/2", 5, "80/(8/2)", 20, "7/2*2", 6, "7*2/4", 3, "2-3+4", 3, "9-8+1", 2);
    }

    private static void theOneToldLast() {
        run("4: Of a KEY that TEXT counts that was told last", "law \"fine 1\" = 0; fine = 1; law \"fine 2\" = 1",
            "fine = 2; law \"price 3\" = 2",
            "fine = 2; why 0 = 2; why 2 = 1; law \"fine x\" = -105; fine = 2; why 2 = 1");
        run("4: ... as THE IMAGE has it", "law \"fine 1\"; keep; law \"fine 2\" = 1; law \"price 2\" = 2; back = 0",
            "fine = 1; why 2 = 0; why 0 = NONE",
            "count 7 = 1; law \"look 9\" = 1; why 1 = 1; why 2 = 0; back; why 1 = NONE");
        run("4: a TEXT more leaves those of THE IMAGE", "keep; law \"fine 1\" = 0; back; law \"fine 2\" = 0; keep",
            "back; fine = 2");
    }

    private static void textTold() {
        run("29: BAD: no such TEXT, no such what", "textTold 0 0 = BAD; law \"look w+1\"; textTold -1 0 = BAD",
            "textTold 1 0 = BAD; textTold MIN 0 = BAD; textTold MAX 0 = BAD; textTold 14 0 = BAD; textTold 0 -1 = BAD",
            "textTold 0 2 = BAD; textTold 0 MIN = BAD; textTold 0 MAX = BAD; textTold 0 0 = 1; textTold 0 1 = 2");
        run("29: KEY (0 price, 1 look, 2 fine)", "law \"fine 1\"; law \"look 1\"; law \"price 1\"; textTold 0 0 = 2",
            "textTold 1 0 = 1; textTold 2 0 = 0");
        run("29: how many NUMBERS and NAMES: one at least, 46 at most",
            "law \"fine 1\"; textTold 0 1 = 1; law \"fine " + many("s+", 45) + "h\"",
            "textTold 1 1 = 46; law \"price !((w))\"; textTold 2 1 = 1; law \"price w*w+1234/n-k\"; textTold 3 1 = 5",
            "textTold 4 1 = BAD");
        run("29: of the fourteenth", fourteen(), "textTold 13 1 = 1; textTold 14 1 = BAD; textTold 13 2 = BAD");
    }

    private static void why() {
        run("30: BAD; NONE", "why -1 = BAD; why 3 = BAD; why MIN = BAD; why MAX = BAD; why 0 = NONE; why 1 = NONE",
            "why 2 = NONE; law \"look 1\"; why 1 = 0; why 0 = NONE; why 2 = NONE; why 3 = BAD; why -1 = BAD");
        run("30: the first and the last of fourteen", "law \"price 1\";" + upToFourteen(1), "why 0 = 0; why 2 = 13",
            "why 1 = NONE; law \"look 1\" = FULL; why 1 = NONE");
    }
}
