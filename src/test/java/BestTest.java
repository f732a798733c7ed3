/** Promises 20 to 25: what is best. */
public final class BestTest {
    private static final Due DUE = new Due();
    private static final int BAD = HeronTalk.BAD, NONE = HeronTalk.NONE, NO = HeronTalk.NO;
    private static final int MIN = Integer.MIN_VALUE, MAX = Integer.MAX_VALUE;

    public static void main(String[] args) {
        richest();
        fewest();
        fewestRows();
        fewestRefused();
        look();
        find();
        keepsBack();
        fine();
        DUE.end();
    }

    private static void richest() {
        DUE.promise("promise 20");
        HeronTalk x = Due.town(4, 0);
        DUE.is("nobody", x.richest(), NONE);
        for (int i = 0; i < 4; i++) {
            x.person();
        }
        DUE.is("all know nothing", x.richest(), 0);
        x.knows(1, 0, 0b0100);
        x.knows(2, 0, 0b0011);
        x.knows(3, 0, 0b0010);
        DUE.is("of several the least", x.richest(), 1);
        x.set(2, 1, 0);
        x.clock(5);
        DUE.is("stale counts", x.richest(), 1);
        x.set(0, 0, 11);
        DUE.is("the sum", x.richest(), 2);
    }

    private static void fewest() {
        DUE.promise("promise 21");
        HeronTalk x = Due.town(4, 4);
        x.knows(0, 0, 0b0001);
        x.knows(1, 0, 0b0010);
        x.knows(2, 0, 0b0101);
        x.knows(3, 0, 0b1111);
        DUE.is("known", x.fewest(0, 0, 3, -1), 0);
        DUE.is("known, by 0", x.fewest(0, 0, 0, -1), 0);
        DUE.is("known, the 0th", x.fewest(0, 0, 3, 0), NONE);
        DUE.is("one talk", x.fewest(0, 1, 3, -1), 1);
        DUE.is("who is asked", x.fewest(0, 1, 3, 0), 1);
        DUE.is("two talks", x.fewest(0, 2, 3, -1), 2);
        DUE.is("not by 1", x.fewest(0, 2, 1, -1), NONE);
        DUE.is("not by 1, the first", x.fewest(0, 2, 1, 0), NONE);
        DUE.is("first of two", x.fewest(0, 2, 2, 0), 1);
        DUE.is("second of two", x.fewest(0, 2, 2, 1), 2);
        DUE.is("there is no third", x.fewest(0, 2, 3, 2), NONE);
        DUE.is("there is no such", x.fewest(0, 2, 3, MAX), NONE);
        DUE.is("nothing goes to one who knows all", x.fewest(0, 3, 3, -1), NONE);
        DUE.is("only thought: KNOWS", x.count(6), 8);
        DUE.is("only thought: SAID", x.count(5), 0);
        DUE.is("THE HOUR stands", x.count(4), 0);
        x.set(0, 1, 4);
        x.clock(5);
        DUE.is("only what is FRESH is given", x.fewest(0, 1, 3, -1), NONE);
    }

    private static void fewestRows() {
        HeronTalk x = Due.town(8, 4);
        x.knows(0, 0, 0b00000111);
        x.knows(3, 0, 0b11100000);
        x.knows(2, 0, 0b11000000);
        x.knows(1, 0, 0b10000000);
        DUE.is("the first of the rows", x.fewest(0, 7, 3, 0), 1);
        DUE.is("the dearest comes first", x.fewest(0, 5, 3, -1), 3);
        DUE.is("the first of three", x.fewest(0, 5, 3, 0), 1);
        DUE.is("the second of three", x.fewest(0, 5, 3, 1), 2);
        DUE.is("the third of three", x.fewest(0, 5, 3, 2), 3);
        x.follows(7, 3, 6);
        DUE.is("no rule holds yet", x.fewest(0, 6, 1, -1), NONE);
        x.follows(7, 0, 5);
        DUE.is("by what FOLLOWS", x.fewest(0, 5, 3, -1), 1);
        DUE.is("the last one asks the first", x.fewest(3, 2, 3, 0), 0);
        HeronTalk y = Due.town(6, 3);
        y.knows(0, 0, 0b000001);
        y.knows(1, 0, 0b000010);
        y.knows(2, 0, 0b001101);
        DUE.is("what one tells, another gives on", y.fewest(0, 2, 3, -1), NONE);
        DUE.is("by the dearest", y.fewest(0, 3, 3, -1), 2);
        y.knows(0, 1, 0b000100);
        DUE.is("needs make dear", y.fewest(0, 2, 3, -1), 2);
        DUE.is("and the other not to be had", y.fewest(0, 3, 3, -1), NONE);
        y.talk(4, 0, 2);
        DUE.is("of the KIND 0 alone", y.fewest(0, 3, 3, -1), NONE);
        Due.text(y, "price w");
        DUE.is("by a TEXT, needs are nothing", y.fewest(0, 3, 3, -1), 2);
        DUE.is("by a TEXT, the other one", y.fewest(0, 2, 3, -1), NONE);
        Due.text(y, "price 99-w");
        DUE.is("by the last TEXT", y.fewest(0, 2, 3, -1), 2);
    }

    private static void fewestRefused() {
        HeronTalk x = Due.town(2, 2);
        int[][] wrong = {{2, 0, 0, -1}, {-1, 0, 0, -1}, {0, 2, 0, -1}, {0, -1, 0, -1}, {0, 0, 4, -1}, {0, 0, -1, -1},
            {0, 0, 0, -2}, {0, 0, 0, MIN}, {MAX, 0, 0, 0}, {0, MIN, 0, 0}, {0, 0, MAX, 0}};
        for (int[] w : wrong) {
            DUE.is("fewest(" + w[0] + ", " + w[1] + ", " + w[2] + ", " + w[3] + ")",
                x.fewest(w[0], w[1], w[2], w[3]), BAD);
        }
        DUE.is("nobody has anything", x.fewest(0, 0, 3, -1), NONE);
    }

    private static void look() {
        DUE.promise("promise 22");
        HeronTalk x = Due.town(2, 8);
        DUE.is("nobody KNOWS it", x.look(0, 0), 10);
        for (int i = 1; i < 8; i++) {
            x.knows(i, 0, 1);
            DUE.is("so many KNOW it", x.look(0, 0), 10 - i);
        }
        DUE.is("it KNOWS it", x.look(1, 0), NO);
        int[][] wrong = {{8, 0}, {-1, 0}, {0, 2}, {0, -1}, {MAX, MIN}};
        for (int[] w : wrong) {
            DUE.is("look(" + w[0] + ", " + w[1] + ")", x.look(w[0], w[1]), BAD);
        }
        Due.text(x, "look w*k");
        DUE.is("w * k", x.look(0, 0), 70);
        DUE.is("held from 1 on", x.look(0, 1), 1);
        Due.text(x, "look w*k*k");
        DUE.is("held till 99", x.look(0, 0), 99);
        DUE.is("THE HOUR stands", x.count(4), 0);
    }

    private static void find() {
        DUE.promise("promise 23");
        HeronTalk x = Due.town(4, 3);
        x.follows(0, 1, 2);
        x.knows(0, 0, 2);
        x.knows(1, 0, 1);
        DUE.is("find(0, 0)", x.find(0, 0), 9);
        DUE.is("what FOLLOWS", x.personTold(0, 0), 7);
        DUE.is("THE HOUR", x.count(4), 9);
        DUE.is("it KNOWS it", x.find(0, 2), NO);
        DUE.is("SAID", x.count(5), 0);
        x.clock(995);
        DUE.is("999 at most", x.find(2, 3), 999);
        DUE.is("KNOWS", x.personTold(2, 0), 8);
        DUE.is("find at 999", x.find(2, 0), 999);
        int[][] wrong = {{3, 0}, {-1, 0}, {0, 4}, {0, -1}, {MAX, MIN}};
        for (int[] w : wrong) {
            DUE.is("find(" + w[0] + ", " + w[1] + ")", x.find(w[0], w[1]), BAD);
        }
        HeronTalk y = Due.town(2, 2);
        Due.text(y, "look 20 + k");
        DUE.is("k ahead of it", y.find(0, 1), 20);
        DUE.is("k behind it", y.find(1, 1), 41);
    }

    private static void keepsBack() {
        DUE.promise("promise 24");
        HeronTalk x = Due.town(4, 3);
        DUE.is("it KNOWS nothing", x.keepsBack(0), NONE);
        x.knows(0, 0, 0b1111);
        DUE.is("the dearest", x.keepsBack(0), 3);
        x.knows(1, 0, 0b1000);
        DUE.is("those who don't KNOW it", x.keepsBack(0), 2);
        x.set(2, 0, 20);
        DUE.is("of several the least", x.keepsBack(0), 1);
        x.knows(2, 1, 0b0001);
        DUE.is("NEEDED by one", x.keepsBack(0), 0);
        x.set(0, 1, 0);
        x.clock(1);
        DUE.is("what is FRESH", x.keepsBack(0), 1);
        x.set(1, 1, 0);
        x.set(2, 1, 0);
        x.set(3, 1, 0);
        DUE.is("no FRESH FACT", x.keepsBack(0), NONE);
        x.clock(0);
        x.knows(1, 0, 15);
        x.knows(2, 0, 15);
        DUE.is("all KNOW all", x.keepsBack(0), 0);
        x.knows(0, 0, 0b0111);
        DUE.is("the first one lacks it", x.keepsBack(1), 3);
        Due.text(x, "price 9-k");
        x.knows(2, 0, 0b1110);
        DUE.is("of several the least, by a TEXT", x.keepsBack(1), 0);
        int[] wrong = {-1, 3, MIN, MAX};
        for (int w : wrong) {
            DUE.is("keepsBack(" + w + ")", x.keepsBack(w), BAD);
        }
    }

    private static void fine() {
        DUE.promise("promise 25");
        HeronTalk x = Due.town(2, 2);
        DUE.is("without a TEXT", x.fine(), 0);
        x.knows(1, 0, 3);
        x.talk(4, 0, 1);
        x.say(0);
        x.say(0);
        x.clock(30);
        Due.text(x, "fine s*100+h");
        DUE.is("s, h", x.fine(), 230);
        Due.text(x, "fine 0-9999*9999");
        DUE.is("not held", x.fine(), -99980001);
        Due.text(x, "fine 9999*9999*99");
        DUE.is("ints wrap", x.fine(), 9999 * 9999 * 99);
    }
}
