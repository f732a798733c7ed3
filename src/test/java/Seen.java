import java.util.ArrayList;
import java.util.List;

/**
 * What can be seen of an object through its face alone. A look may change the
 * object (a tape is read, a sheet is laid into a slot), so each takes a new one.
 */
final class Seen {
    static final int VIEWS = 10;
    private final HeronTalk x;
    private final List<Integer> row = new ArrayList<>();

    Seen(HeronTalk itsObject) {
        x = itsObject;
    }

    List<Integer> row() {
        return row;
    }

    int calls() {
        return row.size();
    }

    private int see(String name, int... args) {
        int told = Script.call(x, name, args);
        row.add(told);
        return told;
    }

    void look(int view) {
        switch (view) {
            case 0: counts(); factsAndPeople(); break;
            case 1: talksAndPrices(); break;
            case 2: texts(); tape(); break;
            case 3: slots(); break;
            case 4: sheets(); break;
            case 5: rules(); break;
            case 6: see("deal"); see("round"); see("market"); counts(); break;
            case 7: see("check", 1); see("tell", 0); break;
            case 8: see("check", 3); see("back"); talksAndPrices(); break;
            default: see("back"); counts(); factsAndPeople(); texts(); break;
        }
    }

    private void counts() {
        for (int what = 0; what < 11; what++) {
            see("count", what);
        }
        see("richest");
        see("fine");
    }

    private void factsAndPeople() {
        int facts = see("count", 0);
        int people = see("count", 1);
        for (int fact = 0; fact < facts; fact++) {
            for (int what = 0; what < 4; what++) {
                see("factTold", fact, what);
            }
        }
        for (int person = 0; person < people; person++) {
            for (int what = 0; what < 5; what++) {
                see("personTold", person, what);
            }
            see("keepsBack", person);
        }
    }

    private void talksAndPrices() {
        int facts = see("count", 0);
        int people = see("count", 1);
        int talks = see("count", 2);
        for (int talk = 0; talk < talks; talk++) {
            for (int what = 0; what < 7; what++) {
                see("told", talk, what);
            }
        }
        for (int fact = 0; fact < facts; fact++) {
            for (int person = 0; person < people; person++) {
                see("price", fact, person);
            }
            see("look", fact % 8, fact);
        }
    }

    private void texts() {
        int texts = see("count", 7);
        for (int text = 0; text < texts; text++) {
            see("textTold", text, 0);
            see("textTold", text, 1);
        }
        for (int key = 0; key < 3; key++) {
            see("why", key);
        }
    }

    private void tape() {
        see("count", 9);
        see("text");
        see("fine");
        see("price", 0, 0);
        see("look", 0, 0);
    }

    private void slots() {
        for (int slot = 0; slot < 5; slot++) {
            see("rest", slot, Integer.MIN_VALUE);
            see("rest", slot, Integer.MAX_VALUE);
            for (int kind = 0; kind < 6; kind++) {
                see("ask", slot, kind);
            }
            int place = 0;
            while (see("item", slot, place) != HeronTalk.INDEX && place < 24) {
                place++;
            }
        }
    }

    private void sheets() {
        for (int sheet = 0; sheet < 4; sheet++) {
            see("lay", 0, 2, sheet);
            see("reads", sheet);
            for (int place = 0; place < 25; place++) {
                see("item", 0, place);
            }
            see("mark", sheet, 0, HeronTalk.NONE);
        }
    }

    /** What follows from each fact, and from each two: knows tells what was. */
    private void rules() {
        see("person");
        int facts = see("count", 0);
        for (int a = 0; a < facts; a++) {
            for (int b = a; b < facts; b++) {
                see("knows", 0, 0, 1 << a | 1 << b);
            }
        }
        see("personTold", 0, 0);
    }
}
