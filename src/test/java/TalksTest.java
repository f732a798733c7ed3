/** Promises 13 to 19: talks of all kinds, rounds, markets. */
public final class TalksTest {
    private static final Due DUE = new Due();
    private static final int BAD = HeronTalk.BAD, FULL = HeronTalk.FULL, NONE = HeronTalk.NONE, NO = HeronTalk.NO;
    private static final int MIN = Integer.MIN_VALUE, MAX = Integer.MAX_VALUE;
    private static final int TALK = 0, FAIR = 1, GENEROUS = 2, CHAIN = 3, HERMIT = 4, OPEN = 5;

    public static void main(String[] args) {
        talk();
        toldOfEveryKind();
        toldOfOneSide();
        toldTies();
        toldFair();
        toldFresh();
        as();
        turns();
        say();
        sayByKinds();
        round();
        market();
        fullTown();
        DUE.end();
    }

    private static void talk() {
        DUE.promise("promise 13");
        HeronTalk x = Due.town(1, 3);
        int[][] wrong = {{6, 0, 1}, {-1, 0, 1}, {0, 0, 0}, {0, 3, 1}, {0, 1, 3}, {0, -1, 1}, {0, 1, -1}, {MAX, 0, 1},
            {MIN, 0, 1}, {0, MAX, MIN}};
        for (int[] w : wrong) {
            DUE.is("talk(" + w[0] + ", " + w[1] + ", " + w[2] + ")", x.talk(w[0], w[1], w[2]), BAD);
        }
        for (int i = 0; i < 8; i++) {
            DUE.is("talk", x.talk(i % 6, i % 3, (i + 1) % 3), i);
        }
        DUE.is("the ninth", x.talk(0, 0, 1), FULL);
        DUE.is("the ninth, with itself", x.talk(0, 1, 1), BAD);
        DUE.is("count(2)", x.count(2), 8);
        for (int i = 0; i < 8; i++) {
            DUE.is("KIND", x.told(i, 0), i % 6);
            DUE.is("p", x.told(i, 1), i % 3);
            DUE.is("q", x.told(i, 2), (i + 1) % 3);
        }
    }

    /** p = 0 knows 0, 1 (worth 10, 20); q = 1 knows 2, 3, 4 (30, 40, 50). */
    private static HeronTalk two() {
        HeronTalk x = Due.town(5, 3);
        x.knows(0, 0, 0b00011);
        x.knows(1, 0, 0b11100);
        return x;
    }

    private static void toldOfEveryKind() {
        DUE.promise("promise 14");
        HeronTalk x = two();
        x.knows(1, 1, 0b00001);
        x.knows(0, 1, 0b00100);
        for (int kind = 0; kind < 6; kind++) {
            x.talk(kind, 0, 1);
        }
        // given for q: 0 costs 110, 1 costs 20; got for p: 2 costs 130, 3 costs 40, 4 costs 50
        int[] given = {1, 1, 0, 1, NONE, 1};
        int[] got = {2, NONE, 2, NONE, 2, 2};
        int[] goes = {1, 0, 1, 0, 1, 1};
        int[] worth = {110, -10, 15, -20, 128, 5};
        for (int kind = 0; kind < 6; kind++) {
            DUE.is("GIVEN of kind " + kind, x.told(kind, 3), given[kind]);
            DUE.is("GOT of kind " + kind, x.told(kind, 4), got[kind]);
            DUE.is("IT GOES of kind " + kind, x.told(kind, 5), goes[kind]);
            DUE.is("WORTH of kind " + kind, x.told(kind, 6), worth[kind]);
        }
        x.knows(1, 1, 0b00011);
        // now 0 costs q 110, 1 costs q 120
        DUE.is("FAIR GIVEN", x.told(FAIR, 3), 0);
        DUE.is("FAIR GOT", x.told(FAIR, 4), 4);
        DUE.is("FAIR WORTH", x.told(FAIR, 6), -50);
        DUE.is("CHAIN GOT", x.told(CHAIN, 4), 4);
        DUE.is("CHAIN WORTH", x.told(CHAIN, 6), -100);
        DUE.is("GENEROUS GIVEN", x.told(GENEROUS, 3), 1);
        DUE.is("GENEROUS WORTH", x.told(GENEROUS, 6), 5);
        int[] wrong = {-1, 6, 8, MIN, MAX};
        for (int w : wrong) {
            DUE.is("told(" + w + ", 0)", x.told(w, 0), BAD);
        }
        int[] whats = {-1, 7, MIN, MAX};
        for (int w : whats) {
            DUE.is("told(0, " + w + ")", x.told(0, w), BAD);
        }
    }

    private static void toldOfOneSide() {
        HeronTalk x = two();
        for (int kind = 0; kind < 6; kind++) {
            x.talk(kind, 0, 1);
        }
        x.knows(0, 0, 0);
        int[] worth = {50, 10, 45, 20, 48, 3};
        int[] goes = {0, 0, 0, 0, 1, 0};
        for (int kind = 0; kind < 6; kind++) {
            DUE.is("nothing GIVEN", x.told(kind, 3), NONE);
            DUE.is("GOES without GIVEN, kind " + kind, x.told(kind, 5), goes[kind]);
            DUE.is("WORTH without GIVEN, kind " + kind, x.told(kind, 6), worth[kind]);
        }
        DUE.is("FAIR GOT without GIVEN", x.told(FAIR, 4), NONE);
        DUE.is("CHAIN GOT without GIVEN", x.told(CHAIN, 4), NONE);
        DUE.is("OPEN GOT without GIVEN", x.told(OPEN, 4), 4);
        x.knows(0, 0, 3);
        x.knows(1, 0, 0);
        int[] costs = {-10, 0, -25, 0, -2, 2};
        for (int kind = 0; kind < 6; kind++) {
            DUE.is("nothing GOT", x.told(kind, 4), NONE);
            DUE.is("GOES without GOT", x.told(kind, 5), 0);
            DUE.is("WORTH without GOT, kind " + kind, x.told(kind, 6), costs[kind]);
        }
        DUE.is("HERMIT GIVEN", x.told(HERMIT, 3), NONE);
    }

    private static void toldTies() {
        HeronTalk x = new HeronTalk();
        for (int i = 0; i < 6; i++) {
            x.fact(20);
        }
        x.person();
        x.person();
        x.knows(0, 0, 0b000110);
        x.knows(1, 0, 0b110000);
        for (int kind = 0; kind < 6; kind++) {
            x.talk(kind, 0, 1);
            DUE.is("of several the least, GIVEN", x.told(kind, 3), kind == HERMIT ? NONE : 1);
            DUE.is("of several the least, GOT", x.told(kind, 4), 4);
        }
        x.set(1, 0, 0);
        x.set(2, 0, 0);
        DUE.is("the least of 0, 0", x.told(TALK, 3), 1);
        DUE.is("the greatest of 0, 0", x.told(GENEROUS, 3), 1);
        x.knows(0, 0, 0b000111);
        x.knows(1, 0, 0b110001);
        DUE.is("what both KNOW is not GIVEN", x.told(GENEROUS, 3), 1);
        DUE.is("what both KNOW is not GOT", x.told(TALK, 4), 4);
    }

    private static void toldFair() {
        HeronTalk x = Due.town(4, 2);
        x.knows(0, 0, 0b0010);
        x.knows(1, 0, 0b1101);
        x.talk(FAIR, 0, 1);
        DUE.is("not above GIVEN", x.told(0, 4), 0);
        x.set(2, 0, 20);
        DUE.is("just as GIVEN", x.told(0, 4), 2);
        x.knows(0, 1, 0b0101);
        DUE.is("needed, too dear", x.told(0, 4), NONE);
        x.knows(1, 1, 0b0010);
        DUE.is("both needed", x.told(0, 4), 2);
        Due.text(x, "price k*10");
        DUE.is("by a text: least number of equals", x.told(0, 4), 0);
    }

    private static void toldFresh() {
        HeronTalk x = two();
        x.talk(TALK, 0, 1);
        x.set(0, 1, 3);
        x.set(4, 1, 3);
        x.clock(3);
        DUE.is("FRESH GIVEN", x.told(0, 3), 0);
        DUE.is("FRESH GOT", x.told(0, 4), 4);
        x.clock(4);
        DUE.is("stale is not GIVEN", x.told(0, 3), 1);
        DUE.is("stale is not GOT", x.told(0, 4), 3);
        x.turns(0, OPEN);
        DUE.is("OPEN's WORTH counts what is stale too", x.told(0, 6), 5);
    }

    private static void as() {
        DUE.promise("promise 15");
        HeronTalk x = Due.town(1, 3);
        for (int kind = 0; kind < 6; kind++) {
            x.talk(kind, 2, 1);
        }
        String[] of = {"0", "01", "02", "013", "024", "05"};
        for (int talk = 0; talk < 6; talk++) {
            for (int kind = 0; kind < 6; kind++) {
                int due = of[talk].indexOf('0' + kind) >= 0 ? 2 : HeronTalk.KIND;
                DUE.is("as(" + talk + ", " + kind + ")", x.as(talk, kind), due);
            }
        }
        int[][] wrong = {{6, 0}, {-1, 0}, {0, 6}, {0, -1}, {MAX, MAX}, {MIN, MIN}, {6, 6}};
        for (int[] w : wrong) {
            DUE.is("as(" + w[0] + ", " + w[1] + ")", x.as(w[0], w[1]), BAD);
        }
    }

    private static void turns() {
        DUE.promise("promise 16");
        HeronTalk x = two();
        x.talk(TALK, 0, 1);
        DUE.is("turns(0, 3)", x.turns(0, CHAIN), TALK);
        DUE.is("KIND", x.told(0, 0), CHAIN);
        DUE.is("turns(0, 4)", x.turns(0, HERMIT), CHAIN);
        DUE.is("GIVEN of HERMIT", x.told(0, 3), NONE);
        DUE.is("turns(0, 4)", x.turns(0, HERMIT), HERMIT);
        DUE.is("p stays", x.told(0, 1), 0);
        DUE.is("q stays", x.told(0, 2), 1);
        int[][] wrong = {{1, 0}, {-1, 0}, {0, 6}, {0, -1}, {MAX, MAX}, {MIN, MIN}};
        for (int[] w : wrong) {
            DUE.is("turns(" + w[0] + ", " + w[1] + ")", x.turns(w[0], w[1]), BAD);
        }
        DUE.is("KIND", x.told(0, 0), HERMIT);
    }

    private static void say() {
        DUE.promise("promise 17");
        HeronTalk x = two();
        x.talk(TALK, 0, 1);
        DUE.is("say(0)", x.say(0), 1);
        DUE.is("p", x.personTold(0, 0), 0b10011);
        DUE.is("q", x.personTold(1, 0), 0b11101);
        DUE.is("the third one", x.personTold(2, 0), 0);
        DUE.is("SAID", x.count(5), 1);
        DUE.is("THE HOUR", x.count(4), 0);
        DUE.is("say(0)", x.say(0), 1);
        DUE.is("q KNOWS all", x.personTold(1, 0), 31);
        DUE.is("say(0), nothing to give", x.say(0), 0);
        DUE.is("p", x.personTold(0, 0), 0b11011);
        DUE.is("SAID", x.count(5), 2);
        int[] wrong = {-1, 1, MIN, MAX};
        for (int w : wrong) {
            DUE.is("say(" + w + ")", x.say(w), BAD);
        }
        HeronTalk y = Due.town(4, 2);
        y.follows(0, 1, 2);
        y.follows(2, 2, 3);
        y.knows(0, 0, 1);
        y.knows(1, 0, 2);
        y.talk(TALK, 0, 1);
        DUE.is("say(0)", y.say(0), 1);
        DUE.is("what FOLLOWS, p", y.personTold(0, 0), 15);
        DUE.is("what FOLLOWS, q", y.personTold(1, 0), 15);
    }

    private static void sayByKinds() {
        HeronTalk x = Due.town(6, 3);
        x.keep();
        x.knows(0, 0, 0b000011);
        x.knows(1, 0, 0b001100);
        x.knows(1, 1, 0b000011);
        x.knows(2, 0, 0b100000);
        int[] kinds = {FAIR, GENEROUS, CHAIN, HERMIT, OPEN};
        for (int kind : kinds) {
            x.talk(kind, 0, 1);
        }
        x.keep();
        int[][] due = {{0b001011, 0b001101, 0b100000}, {0b001011, 0b001110, 0b100000}, {0b001011, 0b001101, 0b100001},
            {0b001011, 0b001100, 0b100000}, {0b001111, 0b001111, 0b100000}};
        for (int talk = 0; talk < 5; talk++) {
            x.back();
            DUE.is("say, kind " + kinds[talk], x.say(talk), 1);
            for (int person = 0; person < 3; person++) {
                DUE.is("kind " + kinds[talk] + ", one " + person, x.personTold(person, 0), due[talk][person]);
            }
        }
        HeronTalk y = Due.town(3, 3);
        y.follows(0, 2, 1);
        y.knows(2, 0, 2);
        y.knows(1, 0, 1);
        y.knows(0, 0, 4);
        y.talk(CHAIN, 1, 2);
        y.knows(2, 1, 1);
        DUE.is("CHAIN from the last one goes round", y.say(0), 1);
        DUE.is("the first one, and what FOLLOWS", y.personTold(0, 0), 7);
        HeronTalk z = Due.town(4, 2);
        z.follows(0, 1, 2);
        z.follows(2, 3, 1);
        z.knows(0, 0, 0b0001);
        z.knows(1, 0, 0b1010);
        z.talk(OPEN, 0, 1);
        z.say(0);
        DUE.is("OPEN, what FOLLOWS", z.personTold(0, 0), 15);
        DUE.is("OPEN, what FOLLOWS", z.personTold(1, 0), 15);
    }

    private static void round() {
        DUE.promise("promise 18");
        HeronTalk x = Due.town(3, 3);
        x.knows(0, 0, 1);
        x.knows(1, 0, 2);
        x.knows(2, 0, 4);
        x.talk(TALK, 0, 1);
        x.talk(TALK, 0, 1);
        x.talk(TALK, 1, 2);
        DUE.is("round()", x.round(), 2);
        DUE.is("THE HOUR", x.count(4), 1);
        DUE.is("SAID", x.count(5), 2);
        DUE.is("a talk sees what the one ahead of it did", x.personTold(2, 0), 0b101);
        DUE.is("q of one, then p of the other", x.personTold(1, 0), 7);
        x.clock(998);
        DUE.is("round()", x.round(), 0);
        DUE.is("round() at 999", x.round(), NO);
        DUE.is("THE HOUR", x.count(4), 999);
        HeronTalk y = two();
        y.talk(HERMIT, 0, 1);
        y.set(4, 1, 0);
        DUE.is("round(), in the last hour", y.round(), 1);
        DUE.is("got the dearest", y.personTold(0, 0), 0b10011);
        y.set(3, 1, 0);
        DUE.is("round()", y.round(), 1);
        DUE.is("got what is FRESH", y.personTold(0, 0), 0b10111);
    }

    private static void market() {
        DUE.promise("promise 19");
        HeronTalk x = two();
        x.talk(HERMIT, 0, 1);
        DUE.is("market()", x.market(), 4);
        DUE.is("THE HOUR", x.count(4), 4);
        DUE.is("SAID", x.count(5), 3);
        DUE.is("market()", x.market(), 1);
        DUE.is("THE HOUR", x.count(4), 5);
        HeronTalk y = two();
        y.talk(HERMIT, 0, 1);
        y.clock(997);
        DUE.is("market() till 999", y.market(), 2);
        DUE.is("THE HOUR", y.count(4), 999);
        DUE.is("p", y.personTold(0, 0), 0b11011);
        DUE.is("market() at 999", y.market(), 0);
    }

    /** As many of all as there may be: nothing is looked for behind the last. */
    private static void fullTown() {
        DUE.promise("promises 6, 14, 18, 20 to 24, 33, in a full town");
        HeronTalk x = Due.town(16, 8);
        for (int i = 0; i < 8; i++) {
            x.knows(i, 0, 3 << 2 * i);
            x.knows(i, 1, 1 << 15);
            x.talk(i % 6, i, (i + 1) % 8);
            x.follows(15, 15, 15);
        }
        DUE.is("GIVEN", x.told(7, 3), 14);
        DUE.is("GOT", x.told(7, 4), 1);
        DUE.is("NEWS", x.personTold(7, 3), 2);
        DUE.is("sum", x.personTold(7, 4), 180);
        DUE.is("RICHEST", x.richest(), 4);
        DUE.is("KEEP", x.keepsBack(7), 15);
        DUE.is("FEWEST", x.fewest(7, 1, 3, -1), 1);
        DUE.is("FEWEST, who is asked", x.fewest(7, 1, 3, 0), 0);
        DUE.is("FEWEST, by nobody", x.fewest(7, 13, 1, -1), NONE);
        DUE.is("LOOK", x.look(0, 15), 9);
        DUE.is("who KNOWS", x.factTold(15, 3), 128);
        DUE.is("round(): all but FAIR 1 and CHAIN 3", x.round(), 6);
        DUE.is("count(6)", x.count(6), 16 + 2 + 2 + 1 + 4 + 2 + 2);
        x.sheet(0, 0, 24);
        DUE.is("pour(0)", x.pour(0), 16);
    }
}
