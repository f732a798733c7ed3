/** Promises 31 to 39: sheets and slots. */
public final class SheetsTest {
    private static final Due DUE = new Due();
    private static final int BAD = HeronTalk.BAD, NO = HeronTalk.NO, NONE = HeronTalk.NONE;
    private static final int NOTHING = HeronTalk.NOTHING, KIND = HeronTalk.KIND, INDEX = HeronTalk.INDEX;
    private static final int SIZE = HeronTalk.SIZE;
    private static final int MIN = Integer.MIN_VALUE, MAX = Integer.MAX_VALUE;

    public static void main(String[] args) {
        sheet();
        mark();
        pour();
        reads();
        copy();
        copyRefused();
        lay();
        ask();
        item();
        rest();
        DUE.end();
    }

    /** A place of a sheet, seen through slot 4. */
    private static int place(HeronTalk x, int sheet, int place) {
        x.lay(4, 2, sheet);
        return x.item(4, place);
    }

    private static void sheet() {
        DUE.promise("promise 31");
        HeronTalk x = new HeronTalk();
        DUE.is("sheet(0, 0, 0)", x.sheet(0, 0, 0), 0);
        DUE.is("no place", x.mark(0, 0, 1), INDEX);
        DUE.is("sheet(3, 1, 24)", x.sheet(3, 1, 24), 24);
        DUE.is("the first place", x.mark(3, 0, 5), 1);
        DUE.is("the last place", x.mark(3, 23, 5), 1);
        DUE.is("sheet(3, 1, 24) anew", x.sheet(3, 1, 24), 24);
        DUE.is("all 0", place(x, 3, 0), 0);
        DUE.is("all 0", place(x, 3, 23), 0);
        DUE.is("sheet(3, 0, 24)", x.sheet(3, 0, 24), 24);
        DUE.is("of shorts now", x.mark(3, 0, NONE), KIND);
        int[] any = {0, 24, 25, -1, MIN, MAX};
        for (int n : any) {
            x.sheet(3, 0, 4);
            DUE.is("sheet(3, -1, " + n + ")", x.sheet(3, -1, n), 0);
            DUE.is("MISSING", x.mark(3, 0, 1), NOTHING);
        }
        int[][] wrong = {{-1, 0, 1}, {4, 0, 1}, {0, 2, 1}, {0, -2, 1}, {0, 0, 25}, {0, 1, MAX}, {4, 0, -1}, {0, 2, -1},
            {4, -1, 0}, {MIN, MIN, MIN}};
        for (int[] w : wrong) {
            DUE.is("sheet(" + w[0] + ", " + w[1] + ", " + w[2] + ")", x.sheet(w[0], w[1], w[2]), BAD);
        }
        DUE.is("sheet(0, 0, -1)", x.sheet(0, 0, -1), SIZE);
        DUE.is("sheet(0, 1, MIN)", x.sheet(0, 1, MIN), SIZE);
        x.sheet(1, 0, 3);
        x.mark(1, 2, 9);
        x.sheet(1, 0, -1);
        x.sheet(1, 0, 25);
        DUE.is("refused, it stays", place(x, 1, 2), 9);
    }

    private static void mark() {
        DUE.promise("promise 32");
        HeronTalk x = new HeronTalk();
        DUE.is("mark(-1, 0, 0)", x.mark(-1, 0, 0), BAD);
        DUE.is("mark(4, 0, 0)", x.mark(4, 0, 0), BAD);
        DUE.is("mark(0, -1, 0), MISSING", x.mark(0, -1, 0), NOTHING);
        x.sheet(0, 0, 2);
        x.sheet(1, 1, 2);
        int[] beyond = {-1, 2, 24, MIN, MAX};
        for (int p : beyond) {
            DUE.is("shorts, place " + p, x.mark(0, p, NONE), INDEX);
            DUE.is("floats, place " + p, x.mark(1, p, 100000), INDEX);
        }
        DUE.is("NONE in shorts", x.mark(0, 0, NONE), KIND);
        int[][] shorts = {{32767, 32767}, {32768, -32768}, {65535, -1}, {65536, 0}, {-32769, 32767}, {MIN, 0}, {MAX, -1},
            {100000, -31072}};
        for (int[] s : shorts) {
            DUE.is("mark(0, 1, " + s[0] + ")", x.mark(0, 1, s[0]), 1);
            DUE.is("its lowest 16 bits", place(x, 0, 1), s[1]);
        }
        DUE.is("the other place", place(x, 0, 0), 0);
        int[] floats = {99999, -99999, 0, 40000};
        for (int v : floats) {
            DUE.is("mark(1, 1, " + v + ")", x.mark(1, 1, v), 1);
            DUE.is("just so", place(x, 1, 1), v);
        }
        int[] wrong = {100000, -100000, MIN, MAX, BAD, NO};
        for (int v : wrong) {
            DUE.is("mark(1, 1, " + v + ")", x.mark(1, 1, v), BAD);
        }
        DUE.is("refused, it stays", place(x, 1, 1), 40000);
        DUE.is("NONE in floats", x.mark(1, 1, NONE), 1);
        DUE.is("NO NUMBER", place(x, 1, 1), KIND);
    }

    private static void pour() {
        DUE.promise("promise 33");
        HeronTalk x = Due.town(4, 1);
        DUE.is("pour(-1)", x.pour(-1), BAD);
        DUE.is("pour(4)", x.pour(4), BAD);
        DUE.is("pour(0), MISSING", x.pour(0), NOTHING);
        x.sheet(0, 1, 3);
        x.mark(0, 0, 100);
        x.mark(0, 1, NONE);
        x.mark(0, 2, -1);
        DUE.is("pour(0)", x.pour(0), 2);
        int[] due = {99, 20, 0, 40};
        for (int i = 0; i < 4; i++) {
            DUE.is("WORTH of " + i, x.factTold(i, 0), due[i]);
        }
        DUE.is("the SHEET stays", place(x, 0, 0), 100);
        x.mark(0, 0, 5);
        DUE.is("pour(0)", x.pour(0), 1);
        DUE.is("pour(0)", x.pour(0), 0);
        x.sheet(1, 0, 24);
        DUE.is("a longer SHEET", x.pour(1), 3);
        x.sheet(2, 0, 0);
        DUE.is("an empty SHEET", x.pour(2), 0);
    }

    private static void reads() {
        DUE.promise("promise 34");
        HeronTalk x = Due.town(4, 3);
        x.knows(0, 0, 0b1011);
        x.knows(2, 0, 0b1000);
        DUE.is("reads(-1)", x.reads(-1), BAD);
        DUE.is("reads(4)", x.reads(4), BAD);
        DUE.is("reads(0), MISSING", x.reads(0), NOTHING);
        x.sheet(0, 0, 0);
        DUE.is("an empty SHEET", x.reads(0), NONE);
        x.sheet(0, 1, 3);
        DUE.is("the first place", x.reads(0), 0);
        x.mark(0, 0, 3);
        DUE.is("0 is right of one who KNOWS nothing", x.reads(0), 2);
        x.mark(0, 2, 1);
        DUE.is("all right", x.reads(0), NONE);
        x.sheet(1, 1, 5);
        x.mark(1, 0, 3);
        x.mark(1, 2, 1);
        DUE.is("nobody's place", x.reads(1), 3);
        x.mark(1, 3, NONE);
        DUE.is("NO NUMBER is passed by", x.reads(1), 4);
        x.mark(1, 4, NONE);
        DUE.is("no other number", x.reads(1), NONE);
        x.mark(1, 1, 1);
        DUE.is("an ordinary place", x.reads(1), 1);
    }

    private static void copy() {
        DUE.promise("promise 35");
        HeronTalk x = new HeronTalk();
        x.sheet(0, 0, 6);
        x.sheet(1, 0, 4);
        for (int i = 0; i < 6; i++) {
            x.mark(0, i, i + 1);
        }
        DUE.is("copy(0, 1, 1, 2, 2)", x.copy(0, 1, 1, 2, 2), 2);
        int[] due = {0, 0, 2, 3};
        for (int i = 0; i < 4; i++) {
            DUE.is("place " + i, place(x, 1, i), due[i]);
        }
        DUE.is("forth within itself", x.copy(0, 0, 0, 1, 5), 5);
        int[] forth = {1, 1, 2, 3, 4, 5};
        for (int i = 0; i < 6; i++) {
            DUE.is("place " + i, place(x, 0, i), forth[i]);
        }
        DUE.is("back within itself", x.copy(0, 2, 0, 0, 4), 4);
        int[] back = {2, 3, 4, 5, 4, 5};
        for (int i = 0; i < 6; i++) {
            DUE.is("place " + i, place(x, 0, i), back[i]);
        }
        DUE.is("none, at the ends", x.copy(0, 6, 1, 4, 0), 0);
        x.sheet(2, 1, 2);
        x.sheet(3, 1, 2);
        x.mark(2, 0, NONE);
        x.mark(2, 1, -70000);
        DUE.is("floats", x.copy(2, 0, 3, 0, 2), 2);
        DUE.is("NO NUMBER comes too", place(x, 3, 0), KIND);
        DUE.is("a float", place(x, 3, 1), -70000);
    }

    private static void copyRefused() {
        HeronTalk x = new HeronTalk();
        x.sheet(0, 0, 3);
        x.sheet(1, 0, 2);
        x.sheet(2, 1, 3);
        int[][] bad = {{-1, 0, 0, 0, 1}, {4, 0, 0, 0, 1}, {0, 0, -1, 0, 1}, {0, 0, 4, 0, 1}, {3, 0, 4, 0, 1},
            {MIN, 0, MAX, 0, 0}};
        for (int[] w : bad) {
            DUE.is("no SHEET", x.copy(w[0], w[1], w[2], w[3], w[4]), BAD);
        }
        DUE.is("from MISSING", x.copy(3, 9, 0, 9, 9), NOTHING);
        DUE.is("to MISSING", x.copy(0, 9, 3, 9, 9), NOTHING);
        DUE.is("other sorts", x.copy(0, 9, 2, 9, 9), KIND);
        DUE.is("other sorts", x.copy(2, 0, 0, 0, 0), KIND);
        int[][] index = {{0, -1, 1, 0, 1}, {0, 3, 1, 0, 1}, {0, 2, 1, 0, 2}, {0, 0, 1, 0, 3}, {0, 0, 1, 2, 1},
            {0, 0, 1, -1, 1}, {0, 0, 1, 0, -1}, {0, 4, 1, 0, 0}, {0, 0, 1, 3, 0}, {0, MAX, 1, 0, MAX}, {0, 0, 1, MAX, 1},
            {0, 1, 1, 0, MAX}, {0, 0, 1, 0, MIN}, {0, MIN, 1, MIN, MIN}, {0, -1, 1, 0, 0}};
        for (int[] w : index) {
            DUE.is("copy(" + w[0] + ", " + w[1] + ", " + w[2] + ", " + w[3] + ", " + w[4] + ")",
                x.copy(w[0], w[1], w[2], w[3], w[4]), INDEX);
        }
    }

    private static void lay() {
        DUE.promise("promise 36");
        HeronTalk x = Due.town(2, 2);
        x.talk(0, 0, 1);
        x.sheet(2, 0, 1);
        DUE.is("lay(0, 3, -9)", x.lay(0, 3, -9), 0);
        DUE.is("lay(0, 1, 0)", x.lay(0, 1, 0), 3);
        DUE.is("lay(0, 2, 2)", x.lay(0, 2, 2), 1);
        DUE.is("lay(0, 0, 77)", x.lay(0, 0, 77), 2);
        DUE.is("lay(0, 0, MIN)", x.lay(0, 0, MIN), 0);
        DUE.is("lay(4, 3, MIN)", x.lay(4, 3, MIN), 0);
        int[][] wrong = {{-1, 0, 0}, {5, 0, 0}, {4, -1, 0}, {4, 4, 0}, {4, 1, 1}, {4, 1, -1}, {4, 2, 4}, {4, 2, -1},
            {MAX, 3, 0}, {4, MIN, 0}, {4, 1, MAX}, {4, 2, MIN}};
        for (int[] w : wrong) {
            DUE.is("lay(" + w[0] + ", " + w[1] + ", " + w[2] + ")", x.lay(w[0], w[1], w[2]), BAD);
        }
        DUE.is("a MISSING SHEET", x.lay(4, 2, 0), NOTHING);
        DUE.is("refused, it holds on", x.lay(4, 0, 0), 3);
    }

    private static void ask() {
        DUE.promise("promise 37");
        HeronTalk x = Due.town(2, 0);
        x.keep();
        x.person();
        x.person();
        x.knows(0, 0, 1);
        x.knows(1, 0, 2);
        for (int kind = 0; kind < 5; kind++) {
            x.talk(kind, 0, 1);
            x.lay(kind, 1, kind);
        }
        String[] of = {"0", "01", "02", "013", "024"};
        int[] worth = {10, 0, 5, 0, 18};
        for (int slot = 0; slot < 5; slot++) {
            for (int kind = 0; kind < 6; kind++) {
                int due = of[slot].indexOf('0' + kind) >= 0 ? worth[slot] : KIND;
                DUE.is("ask(" + slot + ", " + kind + ")", x.ask(slot, kind), due);
            }
        }
        x.turns(0, 5);
        DUE.is("as it was, for good", x.ask(0, 0), 10);
        x.lay(0, 1, 0);
        DUE.is("OPEN", x.ask(0, 5), 2);
        x.knows(0, 0, 3);
        DUE.is("WORTH as it is now", x.ask(0, 5), 3);
        DUE.is("WORTH as it is now", x.ask(4, 4), -2);
        x.back();
        DUE.is("nobody now", x.ask(0, 5), NO);
        DUE.is("KIND goes ahead of NO", x.ask(0, 1), KIND);
        x.person();
        DUE.is("q is nobody now", x.ask(0, 5), NO);
        x.person();
        DUE.is("both are there", x.ask(0, 5), 0);
        x.lay(1, 0, 0);
        x.lay(2, 3, 0);
        x.sheet(0, 0, 1);
        x.lay(3, 2, 0);
        DUE.is("ask(1, 0), nothing", x.ask(1, 0), NOTHING);
        DUE.is("ask(2, 0), a number", x.ask(2, 0), KIND);
        DUE.is("ask(3, 0), a SHEET", x.ask(3, 0), KIND);
        int[][] wrong = {{-1, 0}, {5, 0}, {0, 6}, {0, -1}, {1, 6}, {MAX, MIN}};
        for (int[] w : wrong) {
            DUE.is("ask(" + w[0] + ", " + w[1] + ")", x.ask(w[0], w[1]), BAD);
        }
        HeronTalk y = Due.town(2, 2);
        y.talk(0, 1, 0);
        y.lay(0, 1, 0);
        HeronTalk z = Due.town(1, 1);
        z.keep();
        z.person();
        z.talk(0, 1, 0);
        z.lay(0, 1, 0);
        z.back();
        DUE.is("p is nobody now", z.ask(0, 0), NO);
    }

    private static void item() {
        DUE.promise("promise 38");
        HeronTalk x = Due.town(1, 2);
        x.talk(0, 0, 1);
        x.sheet(0, 1, 3);
        x.mark(0, 1, 12);
        x.mark(0, 2, NONE);
        x.lay(0, 2, 0);
        x.mark(0, 1, 13);
        DUE.is("a row of its own", x.item(0, 1), 12);
        x.sheet(0, -1, 0);
        DUE.is("though the SHEET is MISSING", x.item(0, 1), 12);
        DUE.is("0", x.item(0, 0), 0);
        DUE.is("NO NUMBER", x.item(0, 2), KIND);
        int[] beyond = {-1, 3, 24, MIN, MAX};
        for (int p : beyond) {
            DUE.is("item(0, " + p + ")", x.item(0, p), INDEX);
        }
        x.lay(1, 1, 0);
        x.lay(2, 3, 5);
        DUE.is("a TALK", x.item(1, -1), KIND);
        DUE.is("a number", x.item(2, 99), KIND);
        DUE.is("nothing", x.item(3, 99), NOTHING);
        DUE.is("item(-1, 0)", x.item(-1, 0), BAD);
        DUE.is("item(5, 0)", x.item(5, 0), BAD);
        x.keep();
        x.lay(2, 0, 0);
        x.back();
        DUE.is("an IMAGE keeps no SLOTS", x.item(2, 0), NOTHING);
    }

    private static void rest() {
        DUE.promise("promise 39");
        HeronTalk x = Due.town(1, 2);
        x.talk(0, 0, 1);
        x.sheet(0, 0, 1);
        int[][] due = {{17, 5, 2}, {-17, 5, -2}, {17, -5, 2}, {MIN, -1, 0}, {MIN, 10, -8}, {MAX, MIN, MAX}, {0, 3, 0}};
        for (int[] d : due) {
            x.lay(0, 3, d[0]);
            DUE.is("the rest of " + d[0] + " by " + d[1], x.rest(0, d[1]), d[2]);
        }
        DUE.is("by 0", x.rest(0, 0), NO);
        x.lay(1, 1, 0);
        x.lay(2, 2, 0);
        DUE.is("of a TALK, by 0", x.rest(1, 0), KIND);
        DUE.is("of a SHEET, by 0", x.rest(2, 0), KIND);
        DUE.is("of nothing, by 0", x.rest(3, 0), NOTHING);
        DUE.is("rest(-1, 0)", x.rest(-1, 0), BAD);
        DUE.is("rest(5, 0)", x.rest(5, 0), BAD);
    }
}
