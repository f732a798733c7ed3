/** Promises 26 to 30: the tape and its texts. */
public final class TextsTest {
    private static final Due DUE = new Due();
    private static final int BAD = HeronTalk.BAD, FULL = HeronTalk.FULL, NONE = HeronTalk.NONE;
    private static final int MIN = Integer.MIN_VALUE, MAX = Integer.MAX_VALUE;

    public static void main(String[] args) {
        feed();
        trim();
        textNumbers();
        values();
        faults();
        limits();
        blanks();
        textTold();
        why();
        DUE.end();
    }

    private static void feed() {
        DUE.promise("promise 26");
        HeronTalk x = new HeronTalk();
        for (int i = 1; i <= 8; i++) {
            DUE.is("feed", x.feed(0x20202020, 0x20202020, 0x20202020), 12 * i);
        }
        DUE.is("feed, one too many", x.feed(0, 0, 0), FULL);
        DUE.is("count(9)", x.count(9), 96);
        x.trim(85);
        DUE.is("feed of twelve into eleven", x.feed(0, 0, 0), FULL);
        DUE.is("count(9)", x.count(9), 85);
        x.trim(84);
        DUE.is("feed of twelve into twelve", x.feed(0, 0, 0), 96);
        HeronTalk y = new HeronTalk();
        y.feed(0x66696e65, 0x20312b32, 0x2a332d34);
        DUE.is("the highest byte first", y.text(), 0);
        DUE.is("fine 1+2*3-4", y.fine(), 3);
    }

    private static void trim() {
        DUE.promise("promise 27");
        HeronTalk x = new HeronTalk();
        DUE.is("trim(0)", x.trim(0), 0);
        DUE.is("trim(1) of none", x.trim(1), BAD);
        x.feed(0x66696e65, 0x20373820, 0x39393939);
        DUE.is("trim(13)", x.trim(13), BAD);
        DUE.is("trim(-1)", x.trim(-1), BAD);
        DUE.is("trim(MIN)", x.trim(MIN), BAD);
        DUE.is("trim(MAX)", x.trim(MAX), BAD);
        DUE.is("trim(12)", x.trim(12), 12);
        DUE.is("trim(6)", x.trim(6), 6);
        DUE.is("count(9)", x.count(9), 6);
        DUE.is("text()", x.text(), 0);
        DUE.is("its first bytes", x.fine(), 7);
    }

    private static void textNumbers() {
        DUE.promise("promise 28");
        HeronTalk x = new HeronTalk();
        DUE.is("nothing on the tape", x.text(), -100);
        for (int i = 0; i < 14; i++) {
            DUE.is("text()", Due.text(x, "fine " + i), i);
            DUE.is("the tape is used up", x.count(9), 0);
            DUE.is("the one told last counts", x.fine(), i);
        }
        DUE.is("text(), the 15th", Due.text(x, "fine 99"), FULL);
        DUE.is("the tape is used up", x.count(9), 0);
        DUE.is("count(7)", x.count(7), 14);
        DUE.is("fine()", x.fine(), 13);
        DUE.is("a fault goes ahead of FULL", Due.text(x, "fine x"), -105);
        DUE.is("the tape is used up", x.count(9), 0);
    }

    private static void value(String e, int due) {
        HeronTalk x = new HeronTalk();
        DUE.is("text of " + e, Due.text(x, "fine " + e), 0);
        DUE.is(e, x.fine(), due);
    }

    private static void values() {
        value("7", 7);
        value("0000", 0);
        value("0012", 12);
        value("9999", 9999);
        value("1+2*3", 7);
        value("(1+2)*3", 9);
        value("10-3-2", 5);
        value("100/7/2", 7);
        value("7-8/3*2", 3);
        value("(0-7)/2", -3);
        value("7/0", 0);
        value("0/0", 0);
        value("(0-7)/0", 0);
        value("7/(0-2)", -3);
        value("1<2", 1);
        value("2<2", 0);
        value("2=2", 1);
        value("3=2", 0);
        value("3>2", 1);
        value("2>2", 0);
        value("1+1=2", 1);
        value("2+2=4", 1);
        value("4=2+2", 1);
        value("9-1>2*3+1", 1);
        value("(1<2)=1", 1);
        value("5&3", 1);
        value("5&0", 0);
        value("0|7", 1);
        value("0|0", 0);
        value("1|0&0", 1);
        value("(1|0)&0", 0);
        value("0&0|1", 1);
        value("0&(0|1)", 0);
        value("1=2|2=2", 1);
        value("1<2&3<2", 0);
        value("1<2&3>2", 1);
        value("!0", 1);
        value("!5", 0);
        value("!!5", 1);
        value("!5+1", 1);
        value("!0*7", 7);
        value("!(1-1)+!0", 2);
        value("!(0)*!(0)", 1);
        value("4*!0", 4);
        value("2*(3+4*(5-1))", 38);
        value("9999*9999*9999", 9999 * 9999 * 9999);
        value("s", 0);
        value("h", 0);
        value("s=h", 1);
        value("2=1+1&1", 1);
        HeronTalk x = new HeronTalk();
        Due.text(x, "fine (0-2*8*8*8*8*8*8*8*8*8*8)/(0-1)");
        DUE.is("MIN by -1 wraps", x.fine(), MIN);
    }

    private static void fault(String text, int place) {
        HeronTalk x = new HeronTalk();
        DUE.is("\"" + text + "\"", Due.text(x, text), -100 - place);
        DUE.is("no TEXT", x.count(7), 0);
        DUE.is("the tape is used up", x.count(9), 0);
    }

    private static void faults() {
        fault("   ", 3);
        fault("price", 5);
        fault("price  ", 7);
        fault("pric w", 0);
        fault("  prices w", 2);
        fault("pricew", 0);
        fault("xrice w", 0);
        fault("ook w", 0);
        fault("lookz w", 0);
        fault("looka w", 0);
        fault("fine9", 4);
        fault("fine0", 4);
        fault("Price w", 0);
        fault("1", 0);
        fault("(price w)", 0);
        fault("price5", 5);
        fault("look12345", 4);
        fault("fine fine", 5);
        fault("price s", 6);
        fault("price h", 6);
        fault("look n", 5);
        fault("look s", 5);
        fault("fine w", 5);
        fault("fine k", 5);
        fault("fine n", 5);
        fault("price ww", 6);
        fault("price w w", 8);
        fault("price w5", 7);
        fault("price 5w", 7);
        fault("price 5 6", 8);
        fault("price 12345", 6);
        fault("price 1+00000", 8);
        fault("price W", 6);
        fault("price w+", 8);
        fault("price w+ ", 9);
        fault("price +w", 6);
        fault("price -1", 6);
        fault("price w++w", 8);
        fault("price (w", 8);
        fault("price (w ", 9);
        fault("price w)", 7);
        fault("price ()", 7);
        fault("price (w))", 9);
        fault("price (w+)", 9);
        fault("price !", 7);
        fault("price w!", 7);
        fault("price w!n", 7);
        fault("price 1<2<3", 9);
        fault("price 1<2=3", 9);
        fault("price 1+1>2*3=4", 13);
        fault("price (1<2<3)", 10);
        fault("price 1<2&1<2<3", 13);
        fault("price 1<<2", 8);
        fault("price 1<=2", 8);
        fault("price 1&&2", 8);
        fault("price w(n)", 7);
        fault("price (w)(n)", 9);
        fault("price (w)n", 9);
        fault("price w\tn", 7);
        fault("price\tw", 5);
        fault("price w\u0000", 7);
        fault("price \u00e9", 6);
        fault("price 1+\u00ff", 8);
        fault("\u0080", 0);
        fault("price w%2", 7);
        HeronTalk x = new HeronTalk();
        DUE.is("tests one behind the other, by &", Due.text(x, "price 1<2&2<3|3>2"), 0);
        DUE.is("tests in brackets", Due.text(x, "price (1<2)<(2<3)"), 1);
        DUE.is("brackets need no blank", Due.text(x, "price(w)"), 2);
        DUE.is("nor does !", Due.text(x, "price!w"), 3);
        DUE.is("a fault among open signs", Due.text(x, "fine 1+((!(!(2*"), -115);
        DUE.is("nothing of it is left", Due.text(x, "fine " + many("!(", 8) + "0" + many(")", 8)), 4);
        DUE.is("its value", x.fine(), 0);
        DUE.is("a fault behind leaves", Due.text(x, "fine 1+2+3)"), -110);
        DUE.is("nothing of it is left", Due.text(x, "fine 7"), 5);
        DUE.is("its value", x.fine(), 7);
        DUE.is("its leaves", x.textTold(5, 1), 1);
        DUE.is("a fault behind a test", Due.text(x, "fine 1<"), -107);
        DUE.is("nothing of it is left", Due.text(x, "fine 1<2"), 6);
    }

    private static String many(String sign, int n) {
        StringBuilder row = new StringBuilder();
        for (int i = 0; i < n; i++) {
            row.append(sign);
        }
        return row.toString();
    }

    private static void limits() {
        HeronTalk x = new HeronTalk();
        DUE.is("eight (", Due.text(x, "fine " + many("(", 8) + "1" + many(")", 8)), 0);
        DUE.is("eight !", Due.text(x, "fine " + many("!", 8) + "1"), 1);
        DUE.is("eight of each", Due.text(x, "fine " + many("!(", 8) + "7" + many(")", 8)), 2);
        DUE.is("its value", x.fine(), 1);
        DUE.is("( that are closed", Due.text(x, "fine " + many("(1)+", 9) + "(" + many("(", 7) + "1" + many(")", 8)), 3);
        DUE.is("! that are ended", Due.text(x, "fine " + many("!1+", 9) + many("!", 8) + "1"), 4);
        DUE.is("! ended by brackets", Due.text(x, "fine !(!(!1+1)+!!!!!!1)+" + many("!", 8) + "1"), 5);
        fault("fine " + many("(", 9) + "1" + many(")", 9), 13);
        fault("fine " + many("!", 9) + "1", 13);
        fault("fine " + many("!(", 8) + "!", 21);
        fault("fine " + many("!(", 8) + "(", 21);
        fault("fine !(1+!!!!!!!(0*!1))", 19);
        fault("fine " + many("(1+", 9), 29);
        fault("fine " + many("(", 8) + "1" + many(")", 7), 21);
        String full = "fine 1" + many("+1", 45);
        DUE.is("96 bytes", Due.text(x, full), 6);
        DUE.is("its value", x.fine(), 46);
        fault("fine 11" + many("+1", 44) + "+", 96);
    }

    private static void blanks() {
        HeronTalk x = new HeronTalk();
        DUE.is("blanks everywhere", Due.text(x, "   fine   ( 1 + 2 ) * ! 0   "), 0);
        DUE.is("its value", x.fine(), 3);
        DUE.is("none but one", Due.text(x, "fine(1+2)*!0"), 1);
        DUE.is("its value", x.fine(), 3);
        fault("fine 1 2", 7);
        fault("fi ne 1", 0);
    }

    private static void textTold() {
        DUE.promise("promise 29");
        HeronTalk x = new HeronTalk();
        DUE.is("textTold(0, 0) of none", x.textTold(0, 0), BAD);
        Due.text(x, "fine s+s*(h-12)/!3");
        Due.text(x, "look w");
        Due.text(x, "price 5");
        int[][] due = {{2, 5}, {1, 1}, {0, 1}};
        for (int i = 0; i < 3; i++) {
            DUE.is("KEY", x.textTold(i, 0), due[i][0]);
            DUE.is("NUMBERS and NAMES", x.textTold(i, 1), due[i][1]);
        }
        int[][] wrong = {{3, 0}, {-1, 0}, {0, 2}, {0, -1}, {14, 0}, {MAX, 0}, {MIN, 0}, {0, MAX}, {0, MIN}};
        for (int[] w : wrong) {
            DUE.is("textTold(" + w[0] + ", " + w[1] + ")", x.textTold(w[0], w[1]), BAD);
        }
        for (int i = 3; i < 14; i++) {
            Due.text(x, "look 1");
        }
        DUE.is("the last of fourteen", x.textTold(13, 0), 1);
        DUE.is("the one behind it", x.textTold(14, 0), BAD);
    }

    private static void why() {
        DUE.promise("promise 30");
        HeronTalk x = new HeronTalk();
        Due.text(x, "look 1");
        Due.text(x, "fine 2");
        x.keep();
        Due.text(x, "look 3");
        Due.text(x, "look");
        DUE.is("why(0)", x.why(0), NONE);
        DUE.is("why(1)", x.why(1), 2);
        DUE.is("why(2)", x.why(2), 1);
        x.back();
        DUE.is("why(1) behind back()", x.why(1), 0);
        DUE.is("its number is free again", Due.text(x, "price 4"), 2);
        x.back();
        DUE.is("why(0) behind back()", x.why(0), NONE);
        int[] wrong = {-1, 3, MIN, MAX};
        for (int w : wrong) {
            DUE.is("why(" + w + ")", x.why(w), BAD);
        }
    }
}
