/** Promises 40 to 44: numbers that wait, images, counts. */
public final class RowsTest {
    private static final Due DUE = new Due();
    private static final int BAD = HeronTalk.BAD, NO = HeronTalk.NO, FULL = HeronTalk.FULL, NONE = HeronTalk.NONE;
    private static final int MIN = Integer.MIN_VALUE, MAX = Integer.MAX_VALUE;

    public static void main(String[] args) {
        tell();
        check();
        checkByImage();
        checkLate();
        checkRefused();
        keepAndBack();
        imageKeeps();
        count();
        DUE.end();
    }

    private static void tell() {
        DUE.promise("promise 40");
        HeronTalk x = new HeronTalk();
        for (int i = 1; i <= 60; i++) {
            DUE.is("tell", x.tell(MIN + i), i);
        }
        DUE.is("the 61st", x.tell(0), FULL);
        DUE.is("count(8)", x.count(8), 60);
        x.check(1);
        DUE.is("tell behind check", x.tell(0), 1);
    }

    /** Three rounds: 2 go, 1 goes, none; 4, 7, 8, 8 facts known together. */
    private static HeronTalk market() {
        HeronTalk x = Due.town(4, 2);
        x.knows(0, 0, 0b0001);
        x.knows(1, 0, 0b1110);
        x.talk(4, 0, 1);
        x.talk(0, 0, 1);
        return x;
    }

    private static int told(HeronTalk x, int n, int... numbers) {
        for (int v : numbers) {
            x.tell(v);
        }
        int answer = x.check(n);
        DUE.is("none wait behind check", x.count(8), 0);
        return answer;
    }

    private static void check() {
        DUE.promise("promise 41");
        HeronTalk x = market();
        x.keep();
        x.market();
        int known = x.count(6);
        DUE.is("one round", told(x, 1, 2, 7), 0);
        DUE.is("three rounds", told(x, 3, 2, 7, 1, 8, 0, 8), 0);
        DUE.is("the first is not", told(x, 3, 1, 7, 1, 8, 0, 8), 1);
        DUE.is("the second is not", told(x, 3, 2, 6, 1, 8, 0, 8), 2);
        DUE.is("the third is not", told(x, 3, 2, 7, 0, 8, 0, 8), 3);
        DUE.is("the last is not", told(x, 3, 2, 7, 1, 8, 0, 7), 6);
        DUE.is("all are missing", told(x, 1), 1);
        DUE.is("one is missing", told(x, 3, 2, 7, 1, 8, 0), 6);
        DUE.is("one of one is missing", told(x, 1, 2), 2);
        DUE.is("one too many", told(x, 2, 2, 7, 1, 8, 0), 5);
        DUE.is("two too many", told(x, 2, 2, 7, 1, 8, 0, 8), 5);
        int[] all = new int[60];
        for (int i = 0; i < 30; i++) {
            all[2 * i] = i == 0 ? 2 : i == 1 ? 1 : 0;
            all[2 * i + 1] = i == 0 ? 7 : 8;
        }
        DUE.is("thirty rounds", told(x, 30, all), 0);
        DUE.is("what is now stays", x.count(6), known);
        DUE.is("THE HOUR stays", x.count(4), 3);
        DUE.is("back()", x.back(), 2);
        DUE.is("THE IMAGE stays", x.count(6), 4);
        DUE.is("and its HOUR", x.count(4), 0);
    }

    /** The image's own talks, rules and texts make its rounds, not those of now. */
    private static void checkByImage() {
        HeronTalk x = Due.town(4, 3);
        x.knows(1, 0, 0b0110);
        x.knows(2, 0, 0b1001);
        x.follows(2, 0, 3);
        x.follows(1, 3, 0);
        x.talk(1, 2, 1);
        Due.text(x, "price 20-w/10");
        DUE.is("it GOES by the TEXT", x.told(0, 5), 0);
        Due.text(x, "price 7");
        DUE.is("it GOES by the TEXT", x.told(0, 5), 1);
        x.keep();
        Due.text(x, "price w");
        x.turns(0, 4);
        x.follows(1, 1, 0);
        x.follows(1, 1, 2);
        x.follows(1, 1, 3);
        x.knows(0, 0, 15);
        DUE.is("the rounds of then", told(x, 3, 1, 7, 0, 7, 0, 7), 0);
        x.back();
        DUE.is("round()", x.round(), 1);
        DUE.is("p", x.personTold(2, 0), 0b1011);
        DUE.is("q", x.personTold(1, 0), 0b1111);
    }

    private static void checkLate() {
        HeronTalk x = market();
        x.clock(998);
        x.keep();
        x.clock(0);
        DUE.is("one round till 999", told(x, 30, 2, 7), 0);
        DUE.is("a second one is too many", told(x, 2, 2, 7, 1, 8), 3);
        x.clock(999);
        x.keep();
        DUE.is("no rounds", told(x, 5), 0);
        DUE.is("no rounds, one too many", told(x, 5, 0), 1);
    }

    private static void checkRefused() {
        HeronTalk x = market();
        DUE.is("no IMAGE", told(x, 1, 1, 2), NO);
        DUE.is("no IMAGE, and BAD", told(x, 0, 1, 2), BAD);
        x.keep();
        int[] wrong = {0, -1, 31, MIN, MAX};
        for (int n : wrong) {
            DUE.is("check(" + n + ")", told(x, n, 2, 7), BAD);
        }
    }

    private static void keepAndBack() {
        DUE.promise("promise 42");
        HeronTalk x = Due.town(3, 3);
        DUE.is("keep() of no TALKS", x.keep(), 0);
        x.talk(0, 0, 1);
        x.talk(0, 1, 2);
        DUE.is("keep() of two", x.keep(), 2);
        x.talk(0, 2, 1);
        DUE.promise("promise 43");
        DUE.is("back() to the one kept last", x.back(), 2);
        DUE.is("count(2)", x.count(2), 2);
        x.knows(0, 0, 7);
        DUE.is("back() again", x.back(), 2);
        DUE.is("KNOWS", x.personTold(0, 0), 0);
        HeronTalk y = new HeronTalk();
        DUE.is("back() without", y.back(), NO);
    }

    private static void imageKeeps() {
        HeronTalk x = Due.town(3, 2);
        x.follows(0, 1, 2);
        x.knows(0, 0, 1);
        x.knows(1, 0, 2);
        x.knows(0, 1, 4);
        x.talk(3, 0, 1);
        x.seed(55);
        x.clock(7);
        x.set(1, 0, 77);
        x.set(1, 1, 70);
        Due.text(x, "price w");
        x.sheet(0, 0, 2);
        x.lay(0, 3, 8);
        x.tell(5);
        x.keep();
        x.talk(0, 1, 0);
        x.turns(0, 1);
        x.market();
        x.deal();
        x.set(1, 0, 1);
        x.set(1, 1, 1);
        x.fact(9);
        x.person();
        x.follows(2, 2, 0);
        Due.text(x, "price n");
        Due.text(x, "fine 7");
        x.mark(0, 0, 9);
        x.lay(0, 3, 9);
        x.tell(6);
        x.feed(1, 2, 3);
        DUE.is("back()", x.back(), 1);
        int[] due = {3, 2, 1, 1, 7, 0, 2, 1, 2, 12, 55};
        for (int what = 0; what < 11; what++) {
            DUE.is("count(" + what + ")", x.count(what), due[what]);
        }
        DUE.is("KIND", x.told(0, 0), 3);
        DUE.is("KNOWS", x.personTold(0, 0), 1);
        DUE.is("NEEDS", x.personTold(0, 1), 4);
        DUE.is("WORTH", x.factTold(1, 0), 77);
        DUE.is("TILL", x.factTold(1, 1), 70);
        DUE.is("fine()", x.fine(), 0);
        DUE.is("price by its TEXT", x.price(1, 0), 77);
        DUE.is("the SLOT stays as it became", x.rest(0, 100), 9);
        x.lay(1, 2, 0);
        DUE.is("the SHEET stays as it became", x.item(1, 0), 9);
        x.knows(0, 0, 4);
        DUE.is("rules are as they were", x.personTold(0, 0), 4);
        x.knows(0, 0, 3);
        DUE.is("rules are as they were", x.personTold(0, 0), 7);
    }

    private static void count() {
        DUE.promise("promise 44");
        HeronTalk x = Due.town(5, 3);
        x.talk(4, 0, 1);
        x.talk(0, 1, 0);
        x.follows(0, 0, 1);
        x.follows(1, 1, 0);
        x.follows(2, 2, 2);
        x.follows(2, 2, 2);
        x.knows(1, 0, 31);
        x.clock(6);
        x.say(0);
        Due.text(x, "look 1");
        Due.text(x, "fine 1");
        Due.text(x, "look 1");
        x.tell(NONE);
        x.tell(NONE);
        x.feed(0, 0, 0);
        x.trim(7);
        x.seed(-8);
        int[] due = {5, 3, 2, 4, 6, 1, 6, 3, 2, 7, -8};
        for (int what = 0; what < 11; what++) {
            DUE.is("count(" + what + ")", x.count(what), due[what]);
        }
        int[] wrong = {-1, 11, MIN, MAX};
        for (int w : wrong) {
            DUE.is("count(" + w + ")", x.count(w), BAD);
        }
        DUE.promise("the constants");
        DUE.is("BAD", BAD, -1000000001);
        DUE.is("NO", NO, -1000000002);
        DUE.is("FULL", FULL, -1000000003);
        DUE.is("NONE", NONE, -1000000005);
        DUE.is("NOTHING", HeronTalk.NOTHING, -1000000011);
        DUE.is("KIND", HeronTalk.KIND, -1000000012);
        DUE.is("INDEX", HeronTalk.INDEX, -1000000013);
        DUE.is("SIZE", HeronTalk.SIZE, -1000000014);
    }
}
