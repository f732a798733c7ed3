/** Promises 1 to 12: facts, people, rules, prices, towns drawn, the hour. */
public final class FactsTest {
    private static final Due DUE = new Due();
    private static final int BAD = HeronTalk.BAD, FULL = HeronTalk.FULL, NONE = HeronTalk.NONE;
    private static final int MIN = Integer.MIN_VALUE, MAX = Integer.MAX_VALUE;

    public static void main(String[] args) {
        newObject();
        fact();
        factTold();
        set();
        person();
        personTold();
        knows();
        follows();
        price();
        deal();
        seedAndClock();
        DUE.end();
    }

    private static void newObject() {
        DUE.promise("promise 1");
        HeronTalk x = new HeronTalk();
        for (int what = 0; what < 10; what++) {
            DUE.is("count(" + what + ")", x.count(what), 0);
        }
        DUE.is("count(10)", x.count(10), 1);
        DUE.is("richest()", x.richest(), NONE);
        DUE.is("fine()", x.fine(), 0);
        DUE.is("back()", x.back(), HeronTalk.NO);
        for (int i = 0; i < 4; i++) {
            DUE.is("reads(" + i + ")", x.reads(i), HeronTalk.NOTHING);
        }
        for (int i = 0; i < 5; i++) {
            DUE.is("rest(" + i + ", 1)", x.rest(i, 1), HeronTalk.NOTHING);
        }
        for (int key = 0; key < 3; key++) {
            DUE.is("why(" + key + ")", x.why(key), NONE);
        }
        HeronTalk y = new HeronTalk();
        x.fact(5);
        DUE.is("another object's count(0)", y.count(0), 0);
    }

    private static void fact() {
        DUE.promise("promise 2");
        HeronTalk x = new HeronTalk();
        int[] wrong = {-1, 100, MIN, MAX};
        for (int w : wrong) {
            DUE.is("fact(" + w + ")", x.fact(w), BAD);
        }
        DUE.is("count(0)", x.count(0), 0);
        DUE.is("fact(0)", x.fact(0), 0);
        DUE.is("fact(99)", x.fact(99), 1);
        for (int i = 2; i < 16; i++) {
            DUE.is("fact(7)", x.fact(7), i);
        }
        DUE.is("fact(7), the 17th", x.fact(7), FULL);
        DUE.is("fact(100), the 17th", x.fact(100), BAD);
        DUE.is("count(0)", x.count(0), 16);
        DUE.is("factTold(1, 0)", x.factTold(1, 0), 99);
        DUE.is("factTold(15, 1)", x.factTold(15, 1), 999);
    }

    private static void factTold() {
        DUE.promise("promise 3");
        HeronTalk x = Due.town(3, 8);
        x.knows(0, 0, 2);
        x.knows(3, 0, 6);
        x.knows(7, 0, 7);
        DUE.is("WORTH", x.factTold(1, 0), 20);
        DUE.is("TILL", x.factTold(1, 1), 999);
        DUE.is("FRESH", x.factTold(1, 2), 1);
        DUE.is("who KNOWS", x.factTold(0, 3), 128);
        DUE.is("who KNOWS", x.factTold(1, 3), 137);
        DUE.is("who KNOWS", x.factTold(2, 3), 136);
        x.set(1, 1, 5);
        x.clock(5);
        DUE.is("FRESH in its last hour", x.factTold(1, 2), 1);
        x.clock(6);
        DUE.is("FRESH behind it", x.factTold(1, 2), 0);
        DUE.is("another one", x.factTold(0, 2), 1);
        int[] wrong = {-1, 3, 16, 40, MIN, MAX};
        for (int f : wrong) {
            DUE.is("factTold(" + f + ", 0)", x.factTold(f, 0), BAD);
        }
        int[] whats = {-1, 4, MIN, MAX};
        for (int w : whats) {
            DUE.is("factTold(0, " + w + ")", x.factTold(0, w), BAD);
        }
    }

    private static void set() {
        DUE.promise("promise 4");
        HeronTalk x = Due.town(2, 0);
        DUE.is("set(0, 0, 99)", x.set(0, 0, 99), 10);
        DUE.is("set(0, 0, 0)", x.set(0, 0, 0), 99);
        DUE.is("set(0, 1, 0)", x.set(0, 1, 0), 999);
        DUE.is("set(0, 1, 999)", x.set(0, 1, 999), 0);
        DUE.is("set(0, 1, 17)", x.set(0, 1, 17), 999);
        DUE.is("WORTH", x.factTold(0, 0), 0);
        DUE.is("TILL", x.factTold(0, 1), 17);
        DUE.is("the other one's WORTH", x.factTold(1, 0), 20);
        int[][] wrong = {{2, 0, 1}, {-1, 0, 1}, {0, 2, 1}, {0, -1, 1}, {0, 0, 100}, {0, 0, -1}, {0, 1, 1000},
            {0, 1, -1}, {MIN, 0, 0}, {0, MAX, 0}, {0, 0, MAX}, {0, 1, MIN}};
        for (int[] w : wrong) {
            DUE.is("set(" + w[0] + ", " + w[1] + ", " + w[2] + ")", x.set(w[0], w[1], w[2]), BAD);
        }
        DUE.is("WORTH", x.factTold(0, 0), 0);
        DUE.is("TILL", x.factTold(0, 1), 17);
    }

    private static void person() {
        DUE.promise("promise 5");
        HeronTalk x = Due.town(2, 0);
        for (int i = 0; i < 8; i++) {
            DUE.is("person()", x.person(), i);
            DUE.is("KNOWS", x.personTold(i, 0), 0);
            DUE.is("NEEDS", x.personTold(i, 1), 0);
        }
        DUE.is("person(), the ninth", x.person(), FULL);
        DUE.is("count(1)", x.count(1), 8);
        x.back();
        HeronTalk y = Due.town(2, 0);
        y.keep();
        y.person();
        y.knows(0, 0, 3);
        y.knows(0, 1, 3);
        y.back();
        DUE.is("person() behind back()", y.person(), 0);
        DUE.is("KNOWS", y.personTold(0, 0), 0);
        DUE.is("NEEDS", y.personTold(0, 1), 0);
    }

    private static void personTold() {
        DUE.promise("promise 6");
        HeronTalk x = Due.town(5, 3);
        x.knows(0, 0, 0b00111);
        x.knows(1, 0, 0b00010);
        x.knows(2, 0, 0b10000);
        x.knows(0, 1, 0b11010);
        DUE.is("KNOWS", x.personTold(0, 0), 7);
        DUE.is("NEEDS", x.personTold(0, 1), 26);
        DUE.is("LACKS", x.personTold(0, 2), 24);
        DUE.is("NEWS", x.personTold(0, 3), 2);
        DUE.is("NEWS of one whose only fact another knows", x.personTold(1, 3), 0);
        DUE.is("sum", x.personTold(0, 4), 60);
        x.set(0, 1, 4);
        x.clock(5);
        DUE.is("NEWS counts what is FRESH alone", x.personTold(0, 3), 1);
        DUE.is("the sum counts what is stale too", x.personTold(0, 4), 60);
        int[] wrong = {-1, 3, 8, 99, MIN, MAX};
        for (int p : wrong) {
            DUE.is("personTold(" + p + ", 0)", x.personTold(p, 0), BAD);
        }
        int[] whats = {-1, 5, MIN, MAX};
        for (int w : whats) {
            DUE.is("personTold(0, " + w + ")", x.personTold(0, w), BAD);
        }
    }

    private static void knows() {
        DUE.promise("promise 7");
        HeronTalk x = Due.town(4, 2);
        DUE.is("knows(0, 0, 5)", x.knows(0, 0, 5), 0);
        DUE.is("knows(0, 0, 2)", x.knows(0, 0, 2), 5);
        DUE.is("knows(0, 1, 15)", x.knows(0, 1, 15), 0);
        DUE.is("knows(0, 1, 1)", x.knows(0, 1, 1), 15);
        DUE.is("KNOWS is put, not joined", x.personTold(0, 0), 2);
        DUE.is("NEEDS", x.personTold(0, 1), 1);
        DUE.is("the other one's", x.personTold(1, 0), 0);
        x.follows(0, 1, 2);
        x.follows(2, 2, 3);
        DUE.is("knows(1, 0, 3)", x.knows(1, 0, 3), 0);
        DUE.is("what FOLLOWS, again and again", x.personTold(1, 0), 15);
        DUE.is("knows(1, 0, 0)", x.knows(1, 0, 0), 15);
        DUE.is("nothing FOLLOWS from nothing", x.personTold(1, 0), 0);
        x.knows(1, 1, 3);
        DUE.is("NEEDS do not FOLLOW", x.personTold(1, 1), 3);
        int[][] wrong = {{2, 0, 0}, {-1, 0, 0}, {0, 2, 0}, {0, -1, 0}, {0, 0, 16}, {0, 1, 16}, {0, 0, -1}, {0, 1, MIN},
            {0, 0, 1 << 16}, {MAX, 0, 0}};
        for (int[] w : wrong) {
            DUE.is("knows(" + w[0] + ", " + w[1] + ", " + w[2] + ")", x.knows(w[0], w[1], w[2]), BAD);
        }
        HeronTalk full = Due.town(16, 1);
        DUE.is("all sixteen", full.knows(0, 0, 65535), 0);
        DUE.is("one more", full.knows(0, 0, 65536), BAD);
        DUE.is("KNOWS", full.personTold(0, 0), 65535);
    }

    private static void follows() {
        DUE.promise("promise 8");
        HeronTalk x = Due.town(5, 2);
        x.knows(0, 0, 3);
        x.knows(1, 0, 1);
        DUE.is("follows(2, 3, 4)", x.follows(2, 3, 4), 1);
        DUE.is("follows(2, 2, 3)", x.follows(2, 2, 3), 2);
        DUE.is("not yet", x.personTold(0, 0), 3);
        DUE.is("follows(0, 1, 2)", x.follows(0, 1, 2), 3);
        DUE.is("at once, again and again, against the rules' order", x.personTold(0, 0), 31);
        DUE.is("one half is not enough", x.personTold(1, 0), 1);
        int[][] wrong = {{5, 0, 0}, {0, 5, 0}, {0, 0, 5}, {-1, 0, 0}, {0, -1, 0}, {0, 0, -1}, {MAX, MIN, 0}};
        for (int[] w : wrong) {
            DUE.is("follows(" + w[0] + ", " + w[1] + ", " + w[2] + ")", x.follows(w[0], w[1], w[2]), BAD);
        }
        for (int i = 4; i <= 8; i++) {
            DUE.is("follows(0, 0, 0)", x.follows(0, 0, 0), i);
        }
        DUE.is("the ninth", x.follows(0, 0, 1), FULL);
        DUE.is("the ninth, of no fact", x.follows(0, 5, 1), BAD);
        DUE.is("count(3)", x.count(3), 8);
        DUE.is("a rule refused does nothing", x.personTold(1, 0), 1);
    }

    private static void price() {
        DUE.promise("promise 9");
        HeronTalk x = Due.town(3, 2);
        x.knows(1, 1, 2);
        DUE.is("price(1, 0)", x.price(1, 0), 20);
        DUE.is("price(1, 1)", x.price(1, 1), 120);
        DUE.is("price(2, 1)", x.price(2, 1), 30);
        x.knows(1, 0, 2);
        DUE.is("needed, though known", x.price(1, 1), 120);
        int[][] wrong = {{3, 0}, {-1, 0}, {0, 2}, {0, -1}, {MAX, MAX}, {MIN, MIN}};
        for (int[] w : wrong) {
            DUE.is("price(" + w[0] + ", " + w[1] + ")", x.price(w[0], w[1]), BAD);
        }
        Due.text(x, "price w*100*k+n");
        DUE.is("k is 1", x.price(0, 0), 0);
        DUE.is("held within 999", x.price(1, 1), 999);
        Due.text(x, "price 0");
        DUE.is("0 is no name", x.price(1, 1), 0);
        Due.text(x, "price 0-w");
        DUE.is("held within 0", x.price(1, 1), 0);
        Due.text(x, "price w+n+10*k");
        DUE.is("w, n, k", x.price(1, 1), 31);
        DUE.is("w, n, k of another", x.price(1, 0), 30);
        x.knows(0, 0, 2);
        DUE.is("two KNOW it", x.price(1, 0), 40);
    }

    private static void deal() {
        DUE.promise("promise 10");
        HeronTalk x = Due.town(16, 3);
        x.seed(-77);
        int z = -77;
        int sum = 0;
        int[] sets = new int[6];
        for (int i = 0; i < 6; i++) {
            z = z * 1103515245 + 12345;
            sets[i] = (z >>> 8) % 65536;
            sum += i % 2 == 0 ? Integer.bitCount(sets[i]) : 0;
        }
        DUE.is("deal()", x.deal(), sum);
        for (int i = 0; i < 3; i++) {
            DUE.is("KNOWS", x.personTold(i, 0), sets[2 * i]);
            DUE.is("NEEDS", x.personTold(i, 1), sets[2 * i + 1]);
        }
        DUE.is("z", x.count(10), z);
        HeronTalk few = Due.town(2, 8);
        few.seed(5);
        few.deal();
        int known = 0;
        for (int i = 0; i < 8; i++) {
            known |= few.personTold(i, 0) | few.personTold(i, 1);
        }
        DUE.is("without FACTS that there are not", known, 3);
        few.follows(0, 0, 1);
        few.follows(1, 1, 0);
        few.seed(5);
        int all = few.deal();
        for (int i = 0; i < 8; i++) {
            DUE.is("what FOLLOWS is known", few.personTold(i, 0) % 3, 0);
        }
        DUE.is("together", all, few.count(6));
        HeronTalk none = new HeronTalk();
        DUE.is("nobody", none.deal(), 0);
        DUE.is("no draw", none.count(10), 1);
    }

    private static void seedAndClock() {
        DUE.promise("promise 11");
        HeronTalk x = new HeronTalk();
        DUE.is("seed(-5)", x.seed(-5), 1);
        DUE.is("seed(MIN)", x.seed(MIN), -5);
        DUE.is("seed(MAX)", x.seed(MAX), MIN);
        DUE.is("count(10)", x.count(10), MAX);
        DUE.promise("promise 12");
        DUE.is("clock(999)", x.clock(999), 0);
        DUE.is("clock(4)", x.clock(4), 999);
        int[] wrong = {-1, 1000, MIN, MAX};
        for (int w : wrong) {
            DUE.is("clock(" + w + ")", x.clock(w), BAD);
        }
        DUE.is("count(4)", x.count(4), 4);
        DUE.is("clock(0)", x.clock(0), 4);
    }
}
