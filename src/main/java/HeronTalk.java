/**
 * A town where nobody may ask a thing but by first telling one that the other
 * didn't know. The document's promises are told in DOC.md; this class keeps
 * every row in its constructor and uses it again, so that calls make next to
 * no objects.
 */
public final class HeronTalk {
    public static final int BAD = -1000000001, NO = -1000000002, FULL = -1000000003, NONE = -1000000005, NOTHING = -1000000011, KIND = -1000000012, INDEX = -1000000013, SIZE = -1000000014;

    private static final int MOST_FACTS = 16;
    private static final int MOST_PEOPLE = 8;
    private static final int MOST_RULES = 8;
    private static final int MOST_TALKS = 8;
    private static final int MOST_TEXTS = 14;
    private static final int MOST_BYTES = 96;
    private static final int MOST_WAITING = 60;
    private static final int MOST_PLACES = 24;
    private static final int MOST_WORTH = 99;
    private static final int MOST_PRICE = 999;
    private static final int MOST_LOOK = 99;
    private static final int MOST_ROUNDS = 30;
    private static final int MOST_ASKED = 3;
    private static final int MOST_FLOAT = 99999;
    private static final int LAST_HOUR = 999;
    private static final int SHEETS = 4;
    private static final int SLOTS = 5;

    private static final int TALK_KIND = 0;
    private static final int FAIR_KIND = 1;
    private static final int GENEROUS_KIND = 2;
    private static final int CHAIN_KIND = 3;
    private static final int HERMIT_KIND = 4;
    private static final int OPEN_KIND = 5;
    private static final int KINDS = 6;
    /** The kind right above each kind; TALK has none. */
    private static final int[] ABOVE = {-1, 0, 0, 1, 2, 0};

    private static final int PRICE_KEY = 0;
    private static final int LOOK_KEY = 1;
    private static final int FINE_KEY = 2;
    private static final int KEYS = 3;

    /** How a text's code tells its names: w or s, n or h, k. */
    private static final int FIRST_NAME = -1;
    private static final int SECOND_NAME = -2;
    private static final int THIRD_NAME = -3;
    private static final int NO_NAME = 0;

    private static final int MISSING = -1;
    private static final int SHORTS = 0;
    private static final int FLOATS = 1;

    private static final int HOLDS_NOTHING = 0;
    private static final int HOLDS_TALK = 1;
    private static final int HOLDS_SHEET = 2;
    private static final int HOLDS_NUMBER = 3;

    /** No fact, no person, no text: used inside alone, never answered. */
    private static final int NOBODY = -1;

    private final Town town;
    private final Town image;
    /** Where towns are only thought: the rows of fewest, the rounds of check. */
    private final Town thought;
    private boolean hasImage;
    private final Tape tape;
    private final Reader reader;
    private final Sheet[] sheets;
    private final Slot[] slots;
    private final int[] waiting;
    private int waits;
    private final int[] row;

    public HeronTalk() {
        town = new Town();
        image = new Town();
        thought = new Town();
        hasImage = false;
        reader = new Reader();
        tape = reader.tape;
        sheets = new Sheet[SHEETS];
        for (int i = 0; i < SHEETS; i++) {
            sheets[i] = new Sheet();
        }
        slots = new Slot[SLOTS];
        for (int i = 0; i < SLOTS; i++) {
            slots[i] = new Slot();
        }
        waiting = new int[MOST_WAITING];
        waits = 0;
        row = new int[MOST_ASKED];
    }

    // ---- facts, people

    public int fact(int worth) {
        if (isOutside(worth, 0, MOST_WORTH)) {
            return BAD;
        }
        if (town.facts >= MOST_FACTS) {
            return FULL;
        }
        return town.addFact(worth);
    }

    public int factTold(int fact, int what) {
        if (isNoFact(fact)) {
            return BAD;
        }
        switch (what) {
            case 0: return town.worth[fact];
            case 1: return town.till[fact];
            case 2: return town.isFresh(fact) ? 1 : 0;
            case 3: return town.knowersOf(fact);
            default: return BAD;
        }
    }

    public int set(int fact, int what, int v) {
        if (isNoFact(fact)) {
            return BAD;
        }
        if (what == 0 && !isOutside(v, 0, MOST_WORTH)) {
            int was = town.worth[fact];
            town.worth[fact] = v;
            return was;
        }
        if (what == 1 && !isOutside(v, 0, LAST_HOUR)) {
            int was = town.till[fact];
            town.till[fact] = v;
            return was;
        }
        return BAD;
    }

    public int person() {
        if (town.people >= MOST_PEOPLE) {
            return FULL;
        }
        return town.addPerson();
    }

    public int personTold(int person, int what) {
        if (isNobody(person)) {
            return BAD;
        }
        switch (what) {
            case 0: return town.knows[person];
            case 1: return town.needs[person];
            case 2: return town.needs[person] & ~town.knows[person];
            case 3: return town.newsOf(person);
            case 4: return town.richesOf(person);
            default: return BAD;
        }
    }

    public int knows(int person, int what, int set) {
        if (isNobody(person) || isOutside(what, 0, 1) || (set & ~town.allFacts()) != 0) {
            return BAD;
        }
        if (what == 0) {
            int was = town.knows[person];
            town.knows[person] = town.withWhatFollows(set);
            return was;
        }
        int was = town.needs[person];
        town.needs[person] = set;
        return was;
    }

    public int follows(int a, int b, int c) {
        if (isNoFact(a) || isNoFact(b) || isNoFact(c)) {
            return BAD;
        }
        if (town.rules >= MOST_RULES) {
            return FULL;
        }
        return town.addRule(a, b, c);
    }

    public int price(int fact, int person) {
        if (isNoFact(fact) || isNobody(person)) {
            return BAD;
        }
        return town.priceOf(fact, person);
    }

    public int deal() {
        town.drawAll();
        return town.knownTogether();
    }

    public int seed(int v) {
        int was = town.z;
        town.z = v;
        return was;
    }

    public int clock(int v) {
        if (isOutside(v, 0, LAST_HOUR)) {
            return BAD;
        }
        int was = town.hour;
        town.hour = v;
        return was;
    }

    // ---- talks

    public int talk(int kind, int p, int q) {
        if (isNoKind(kind) || isNobody(p) || isNobody(q) || p == q) {
            return BAD;
        }
        if (town.talks >= MOST_TALKS) {
            return FULL;
        }
        return town.addTalk(kind, p, q);
    }

    public int told(int talk, int what) {
        if (isNoTalk(talk)) {
            return BAD;
        }
        int kind = town.kinds[talk];
        int p = town.askers[talk];
        int q = town.asked[talk];
        int given = town.givenOf(kind, p, q);
        int got = town.gotOf(kind, p, q, given);
        switch (what) {
            case 0: return kind;
            case 1: return p;
            case 2: return q;
            case 3: return orNone(given);
            case 4: return orNone(got);
            case 5: return goes(kind, given, got) ? 1 : 0;
            case 6: return town.worthOf(kind, p, q);
            default: return BAD;
        }
    }

    public int as(int talk, int kind) {
        if (isNoTalk(talk) || isNoKind(kind)) {
            return BAD;
        }
        return isOfKind(town.kinds[talk], kind) ? town.askers[talk] : KIND;
    }

    public int turns(int talk, int kind) {
        if (isNoTalk(talk) || isNoKind(kind)) {
            return BAD;
        }
        int was = town.kinds[talk];
        town.kinds[talk] = kind;
        return was;
    }

    public int say(int talk) {
        if (isNoTalk(talk)) {
            return BAD;
        }
        return town.converse(town.kinds[talk], town.askers[talk], town.asked[talk]) ? 1 : 0;
    }

    public int round() {
        return town.hour >= LAST_HOUR ? NO : town.goRound();
    }

    public int market() {
        int rounds = 0;
        while (town.hour < LAST_HOUR && rounds < LAST_HOUR) {
            rounds++;
            if (town.goRound() == 0) {
                break;
            }
        }
        return rounds;
    }

    // ---- what is best

    public int richest() {
        return orNone(town.richestOne());
    }

    public int fewest(int person, int fact, int n, int what) {
        if (isNobody(person) || isNoFact(fact) || isOutside(n, 0, MOST_ASKED) || what < -1) {
            return BAD;
        }
        thought.becomes(town);
        for (int talks = 0; talks <= n; talks++) {
            if (comesToKnow(thought, person, fact, talks, 0, row)) {
                if (what < 0) {
                    return talks;
                }
                return what < talks && what < row.length ? row[what] : NONE;
            }
        }
        return NONE;
    }

    public int look(int person, int fact) {
        if (isNobody(person) || isNoFact(fact)) {
            return BAD;
        }
        return town.isKnown(person, fact) ? NO : town.lookFor(fact);
    }

    public int find(int person, int fact) {
        if (isNobody(person) || isNoFact(fact)) {
            return BAD;
        }
        if (town.isKnown(person, fact)) {
            return NO;
        }
        town.hour = Math.min(LAST_HOUR, town.hour + town.lookFor(fact));
        town.learn(person, 1 << fact);
        return town.hour;
    }

    public int keepsBack(int person) {
        return isNobody(person) ? BAD : orNone(town.bestToKeep(person));
    }

    public int fine() {
        return town.fineNow();
    }

    // ---- texts

    public int feed(int a, int b, int c) {
        if (tape.length + 12 > MOST_BYTES) {
            return FULL;
        }
        tape.add(a);
        tape.add(b);
        tape.add(c);
        return tape.length;
    }

    public int trim(int n) {
        if (isOutside(n, 0, tape.length)) {
            return BAD;
        }
        tape.length = n;
        return n;
    }

    public int text() {
        int fault = reader.findFault();
        tape.length = 0;
        if (fault >= 0) {
            return -100 - fault;
        }
        if (town.texts >= MOST_TEXTS) {
            return FULL;
        }
        return town.addText(reader.makeText());
    }

    public int textTold(int text, int what) {
        if (text < 0 || text >= town.texts) {
            return BAD;
        }
        Text asked = town.laws[text];
        if (asked == null) {
            return BAD;
        }
        switch (what) {
            case 0: return asked.key;
            case 1: return asked.leaves;
            default: return BAD;
        }
    }

    public int why(int key) {
        return isOutside(key, 0, KEYS - 1) ? BAD : orNone(town.lastTextOf(key));
    }

    // ---- sheets, slots

    public int sheet(int sheet, int sort, int n) {
        if (isNoSheet(sheet) || isOutside(sort, MISSING, FLOATS)) {
            return BAD;
        }
        int places = sort == MISSING ? 0 : n;
        if (places > MOST_PLACES) {
            return BAD;
        }
        if (places < 0) {
            return SIZE;
        }
        sheets[sheet].lieAnew(sort, places);
        return places;
    }

    public int mark(int sheet, int place, int v) {
        if (isNoSheet(sheet)) {
            return BAD;
        }
        Sheet marked = sheets[sheet];
        if (marked.sort == MISSING) {
            return NOTHING;
        }
        if (marked.hasNoPlace(place)) {
            return INDEX;
        }
        if (marked.sort == SHORTS) {
            if (v == NONE) {
                return KIND;
            }
            marked.places[place] = (short) v;
            return 1;
        }
        if (v != NONE && isOutside(v, -MOST_FLOAT, MOST_FLOAT)) {
            return BAD;
        }
        marked.places[place] = v;
        return 1;
    }

    public int pour(int sheet) {
        if (isNoSheet(sheet)) {
            return BAD;
        }
        return sheets[sheet].sort == MISSING ? NOTHING : town.takeWorths(sheets[sheet]);
    }

    public int reads(int sheet) {
        if (isNoSheet(sheet)) {
            return BAD;
        }
        return sheets[sheet].sort == MISSING ? NOTHING : orNone(town.firstOtherwise(sheets[sheet]));
    }

    public int copy(int from, int place, int to, int at, int many) {
        if (isNoSheet(from) || isNoSheet(to)) {
            return BAD;
        }
        Sheet source = sheets[from];
        Sheet target = sheets[to];
        if (source.sort == MISSING || target.sort == MISSING) {
            return NOTHING;
        }
        if (source.sort != target.sort) {
            return KIND;
        }
        if (source.hasNoRow(place, many) || target.hasNoRow(at, many)) {
            return INDEX;
        }
        System.arraycopy(source.places, place, target.places, at, many);
        return many;
    }

    public int lay(int slot, int thing, int k) {
        if (isNoSlot(slot) || isOutside(thing, HOLDS_NOTHING, HOLDS_NUMBER)) {
            return BAD;
        }
        if (thing == HOLDS_TALK && isNoTalk(k) || thing == HOLDS_SHEET && isNoSheet(k)) {
            return BAD;
        }
        if (thing == HOLDS_SHEET && sheets[k].sort == MISSING) {
            return NOTHING;
        }
        Slot laid = slots[slot];
        int held = laid.holds;
        laid.holds = thing;
        if (thing == HOLDS_TALK) {
            laid.holdTalk(town.kinds[k], town.askers[k], town.asked[k]);
        } else if (thing == HOLDS_SHEET) {
            laid.sheet.becomes(sheets[k]);
        } else {
            laid.number = k;
        }
        return held;
    }

    public int ask(int slot, int kind) {
        if (isNoSlot(slot) || isNoKind(kind)) {
            return BAD;
        }
        Slot held = slots[slot];
        if (held.holds == HOLDS_NOTHING) {
            return NOTHING;
        }
        if (held.holds != HOLDS_TALK || !isOfKind(held.kind, kind)) {
            return KIND;
        }
        if (isNobody(held.asker) || isNobody(held.asked)) {
            return NO;
        }
        return town.worthOf(held.kind, held.asker, held.asked);
    }

    public int item(int slot, int place) {
        if (isNoSlot(slot)) {
            return BAD;
        }
        Slot held = slots[slot];
        if (held.holds == HOLDS_NOTHING) {
            return NOTHING;
        }
        if (held.holds != HOLDS_SHEET) {
            return KIND;
        }
        if (held.sheet.hasNoPlace(place)) {
            return INDEX;
        }
        return held.sheet.places[place] == NONE ? KIND : held.sheet.places[place];
    }

    public int rest(int slot, int n) {
        if (isNoSlot(slot)) {
            return BAD;
        }
        Slot held = slots[slot];
        if (held.holds == HOLDS_NOTHING) {
            return NOTHING;
        }
        if (held.holds != HOLDS_NUMBER) {
            return KIND;
        }
        return n == 0 ? NO : held.number % n;
    }

    // ---- rows, images

    public int tell(int v) {
        if (waits >= MOST_WAITING) {
            return FULL;
        }
        waiting[waits] = v;
        waits++;
        return waits;
    }

    public int check(int n) {
        int held = waits;
        waits = 0;
        if (isOutside(n, 1, MOST_ROUNDS)) {
            return BAD;
        }
        if (!hasImage) {
            return NO;
        }
        thought.becomes(image);
        int right = 0;
        for (int i = 0; i < n && thought.hour < LAST_HOUR; i++) {
            int went = thought.goRound();
            if (right >= held || waiting[right] != went) {
                return 1 + right;
            }
            right++;
            if (right >= held || waiting[right] != thought.knownTogether()) {
                return 1 + right;
            }
            right++;
        }
        return right < held ? 1 + right : 0;
    }

    public int keep() {
        image.becomes(town);
        hasImage = true;
        return town.talks;
    }

    public int back() {
        if (!hasImage) {
            return NO;
        }
        town.becomes(image);
        return town.talks;
    }

    public int count(int what) {
        switch (what) {
            case 0: return town.facts;
            case 1: return town.people;
            case 2: return town.talks;
            case 3: return town.rules;
            case 4: return town.hour;
            case 5: return town.said;
            case 6: return town.knownTogether();
            case 7: return town.texts;
            case 8: return waits;
            case 9: return tape.length;
            case 10: return town.z;
            default: return BAD;
        }
    }

    // ---- what is refused

    private boolean isNoFact(int fact) {
        return fact < 0 || fact >= town.facts;
    }

    private boolean isNobody(int person) {
        return person < 0 || person >= town.people;
    }

    private boolean isNoTalk(int talk) {
        return talk < 0 || talk >= town.talks;
    }

    private static boolean isNoKind(int kind) {
        return kind < 0 || kind >= KINDS;
    }

    private static boolean isNoSheet(int sheet) {
        return sheet < 0 || sheet >= SHEETS;
    }

    private static boolean isNoSlot(int slot) {
        return slot < 0 || slot >= SLOTS;
    }

    private static boolean isOutside(int v, int least, int most) {
        return v < least || v > most;
    }

    private static int orNone(int number) {
        return number == NOBODY ? NONE : number;
    }

    private static int held(int v, int least, int most) {
        return Math.max(least, Math.min(most, v));
    }

    // ---- kinds, rows of talks

    /** Whether a kind is another one or stands under it. */
    private static boolean isOfKind(int kind, int other) {
        int above = kind;
        for (int step = 0; step < KINDS && above >= 0 && above < ABOVE.length; step++) {
            if (above == other) {
                return true;
            }
            above = ABOVE[above];
        }
        return false;
    }

    private static boolean goes(int kind, int given, int got) {
        return got != NOBODY && (given != NOBODY || isOfKind(kind, HERMIT_KIND));
    }

    /**
     * Whether one comes to know a fact by just so many talks more; the row then
     * tells whom it asks. Tried by numbers, so the first row is found; a talk of
     * kind 0 changes what two know, and that alone is put back.
     */
    private static boolean comesToKnow(Town thought, int p, int fact, int left, int depth, int[] row) {
        if (left <= 0 || depth >= row.length) {
            return thought.isKnown(p, fact);
        }
        int knewP = thought.knows[p];
        for (int q = 0; q < thought.people; q++) {
            int knewQ = thought.knows[q];
            if (q == p || !thought.converse(TALK_KIND, p, q)) {
                continue;
            }
            row[depth] = q;
            if (comesToKnow(thought, p, fact, left - 1, depth + 1, row)) {
                return true;
            }
            thought.knows[p] = knewP;
            thought.knows[q] = knewQ;
        }
        return false;
    }

    /** All that an image keeps. Sets of facts and of people are told by bits. */
    private static final class Town {
        int facts;
        int people;
        int rules;
        int talks;
        int texts;
        int hour;
        int said;
        int z;
        final int[] worth;
        final int[] till;
        final int[] knows;
        final int[] needs;
        /** Of each rule the set that must be known, and the set that follows. */
        final int[] ruleNeeds;
        final int[] ruleGives;
        final int[] kinds;
        final int[] askers;
        final int[] asked;
        final Text[] laws;

        Town() {
            facts = 0;
            people = 0;
            rules = 0;
            talks = 0;
            texts = 0;
            hour = 0;
            said = 0;
            z = 1;
            worth = new int[MOST_FACTS];
            till = new int[MOST_FACTS];
            knows = new int[MOST_PEOPLE];
            needs = new int[MOST_PEOPLE];
            ruleNeeds = new int[MOST_RULES];
            ruleGives = new int[MOST_RULES];
            kinds = new int[MOST_TALKS];
            askers = new int[MOST_TALKS];
            asked = new int[MOST_TALKS];
            laws = new Text[MOST_TEXTS];
        }

        /** Texts never change once they are made, so towns may share them. */
        void becomes(Town other) {
            facts = other.facts;
            people = other.people;
            rules = other.rules;
            talks = other.talks;
            texts = other.texts;
            hour = other.hour;
            said = other.said;
            z = other.z;
            for (int i = 0; i < MOST_FACTS; i++) {
                worth[i] = other.worth[i];
                till[i] = other.till[i];
            }
            for (int i = 0; i < MOST_PEOPLE; i++) {
                knows[i] = other.knows[i];
                needs[i] = other.needs[i];
            }
            for (int i = 0; i < MOST_RULES; i++) {
                ruleNeeds[i] = other.ruleNeeds[i];
                ruleGives[i] = other.ruleGives[i];
            }
            for (int i = 0; i < MOST_TALKS; i++) {
                kinds[i] = other.kinds[i];
                askers[i] = other.askers[i];
                asked[i] = other.asked[i];
            }
            for (int i = 0; i < MOST_TEXTS; i++) {
                laws[i] = other.laws[i];
            }
        }

        int addFact(int itsWorth) {
            int number = facts;
            if (number < MOST_FACTS) {
                worth[number] = itsWorth;
                till[number] = LAST_HOUR;
                facts++;
            }
            return number;
        }

        int addPerson() {
            int number = people;
            if (number < MOST_PEOPLE) {
                knows[number] = 0;
                needs[number] = 0;
                people++;
            }
            return number;
        }

        /** A new rule holds at once for what people know already. */
        int addRule(int a, int b, int c) {
            if (rules < MOST_RULES) {
                ruleNeeds[rules] = 1 << a | 1 << b;
                ruleGives[rules] = 1 << c;
                rules++;
            }
            for (int person = 0; person < people; person++) {
                learn(person, 0);
            }
            return rules;
        }

        int addTalk(int kind, int p, int q) {
            int number = talks;
            if (number < MOST_TALKS) {
                kinds[number] = kind;
                askers[number] = p;
                asked[number] = q;
                talks++;
            }
            return number;
        }

        int addText(Text text) {
            int number = texts;
            if (number < MOST_TEXTS) {
                laws[number] = text;
                texts++;
            }
            return number;
        }

        int allFacts() {
            return (1 << facts) - 1;
        }

        boolean isFresh(int fact) {
            return hour <= till[fact];
        }

        int freshFacts() {
            int set = 0;
            for (int fact = 0; fact < facts; fact++) {
                if (isFresh(fact)) {
                    set |= 1 << fact;
                }
            }
            return set;
        }

        boolean isKnown(int person, int fact) {
            return (knows[person] >> fact & 1) != 0;
        }

        int knowersOf(int fact) {
            int set = 0;
            for (int person = 0; person < people; person++) {
                if (isKnown(person, fact)) {
                    set |= 1 << person;
                }
            }
            return set;
        }

        int howManyKnow(int fact) {
            int many = 0;
            for (int person = 0; person < people; person++) {
                many += knows[person] >> fact & 1;
            }
            return many;
        }

        int knownTogether() {
            int sum = 0;
            for (int person = 0; person < people; person++) {
                sum += Integer.bitCount(knows[person]);
            }
            return sum;
        }

        int newsOf(int person) {
            int news = freshFacts() & knows[person];
            for (int other = 0; other < people; other++) {
                if (other != person) {
                    news &= ~knows[other];
                }
            }
            return Integer.bitCount(news);
        }

        int richesOf(int person) {
            int sum = 0;
            for (int fact = 0; fact < facts; fact++) {
                if (isKnown(person, fact)) {
                    sum += worth[fact];
                }
            }
            return sum;
        }

        int richestOne() {
            int best = NOBODY;
            int most = 0;
            for (int person = 0; person < people; person++) {
                int riches = richesOf(person);
                if (best == NOBODY || riches > most) {
                    best = person;
                    most = riches;
                }
            }
            return best;
        }

        /** Each pass that adds something uses up a rule: rules passes are enough. */
        int withWhatFollows(int set) {
            int known = set;
            for (int pass = 0; pass < rules; pass++) {
                int before = known;
                for (int rule = 0; rule < rules; rule++) {
                    if ((known & ruleNeeds[rule]) == ruleNeeds[rule]) {
                        known |= ruleGives[rule];
                    }
                }
                if (known == before) {
                    break;
                }
            }
            return known;
        }

        void learn(int person, int set) {
            knows[person] = withWhatFollows(knows[person] | set);
        }

        int drawOne() {
            z = z * 1103515245 + 12345;
            return z >>> 8;
        }

        void drawAll() {
            for (int person = 0; person < people; person++) {
                knows[person] = withWhatFollows(drawOne() % 65536 & allFacts());
                needs[person] = drawOne() % 65536 & allFacts();
            }
        }

        int lastTextOf(int key) {
            for (int text = texts - 1; text >= 0; text--) {
                if (laws[text] != null && laws[text].key == key) {
                    return text;
                }
            }
            return NOBODY;
        }

        int priceOf(int fact, int person) {
            int need = needs[person] >> fact & 1;
            int law = lastTextOf(PRICE_KEY);
            int price = law == NOBODY
                ? worth[fact] + 100 * need
                : laws[law].valueFor(worth[fact], need, howManyKnow(fact));
            return held(price, 0, MOST_PRICE);
        }

        int lookFor(int fact) {
            int knowers = howManyKnow(fact);
            int law = lastTextOf(LOOK_KEY);
            int hours = law == NOBODY ? 10 - knowers : laws[law].valueFor(worth[fact], 0, knowers);
            return held(hours, 1, MOST_LOOK);
        }

        int fineNow() {
            int law = lastTextOf(FINE_KEY);
            return law == NOBODY ? 0 : laws[law].valueFor(said, hour, 0);
        }

        /** Of a set the fact with the greatest or least price not above a limit. */
        int pick(int set, int person, boolean greatest, int limit) {
            int best = NOBODY;
            int bestPrice = 0;
            for (int fact = 0; fact < facts; fact++) {
                if ((set >> fact & 1) == 0) {
                    continue;
                }
                int price = priceOf(fact, person);
                boolean better = greatest ? price > bestPrice : price < bestPrice;
                if (price <= limit && (best == NOBODY || better)) {
                    best = fact;
                    bestPrice = price;
                }
            }
            return best;
        }

        int givenOf(int kind, int p, int q) {
            if (isOfKind(kind, HERMIT_KIND)) {
                return NOBODY;
            }
            int set = freshFacts() & knows[p] & ~knows[q];
            return pick(set, q, isOfKind(kind, GENEROUS_KIND), MOST_PRICE);
        }

        int gotOf(int kind, int p, int q, int given) {
            int limit = MOST_PRICE;
            if (isOfKind(kind, FAIR_KIND)) {
                if (given == NOBODY) {
                    return NOBODY;
                }
                limit = priceOf(given, q);
            }
            int set = freshFacts() & knows[q] & ~knows[p];
            return pick(set, p, true, limit);
        }

        int worthOf(int kind, int p, int q) {
            int given = givenOf(kind, p, q);
            int got = gotOf(kind, p, q, given);
            int gain = got == NOBODY ? 0 : priceOf(got, p);
            int cost = given == NOBODY ? 0 : priceOf(given, q);
            switch (kind) {
                case FAIR_KIND: return gain - cost + 10;
                case CHAIN_KIND: return 2 * (gain - cost + 10);
                case GENEROUS_KIND: return gain - cost - 5;
                case HERMIT_KIND: return gain - cost - 5 + 3;
                case OPEN_KIND: return Integer.bitCount(knows[p]) + Integer.bitCount(knows[q]);
                default: return gain - cost;
            }
        }

        /** A talk of two, if it goes: whether it did. */
        boolean converse(int kind, int p, int q) {
            int given = givenOf(kind, p, q);
            int got = gotOf(kind, p, q, given);
            if (!goes(kind, given, got)) {
                return false;
            }
            int told = given == NOBODY ? 0 : 1 << given;
            learn(q, told);
            learn(p, 1 << got);
            if (isOfKind(kind, CHAIN_KIND)) {
                learn(q + 1 < people ? q + 1 : 0, told);
            }
            if (isOfKind(kind, OPEN_KIND)) {
                learn(p, knows[q]);
                learn(q, knows[p]);
            }
            said++;
            return true;
        }

        int goRound() {
            int went = 0;
            for (int talk = 0; talk < talks; talk++) {
                if (converse(kinds[talk], askers[talk], asked[talk])) {
                    went++;
                }
            }
            hour++;
            return went;
        }

        int bestToKeep(int person) {
            int best = NOBODY;
            int most = 0;
            int set = freshFacts() & knows[person];
            for (int fact = 0; fact < facts; fact++) {
                if ((set >> fact & 1) == 0) {
                    continue;
                }
                int sum = pricesForOthers(fact);
                if (best == NOBODY || sum > most) {
                    best = fact;
                    most = sum;
                }
            }
            return best;
        }

        int pricesForOthers(int fact) {
            int sum = 0;
            for (int other = 0; other < people; other++) {
                if (!isKnown(other, fact)) {
                    sum += priceOf(fact, other);
                }
            }
            return sum;
        }

        int takeWorths(Sheet sheet) {
            int changed = 0;
            for (int fact = 0; fact < facts && fact < sheet.size; fact++) {
                int place = sheet.places[fact];
                if (place == NONE) {
                    continue;
                }
                int poured = held(place, 0, MOST_WORTH);
                if (poured != worth[fact]) {
                    worth[fact] = poured;
                    changed++;
                }
            }
            return changed;
        }

        int firstOtherwise(Sheet sheet) {
            for (int place = 0; place < sheet.size; place++) {
                int told = sheet.places[place];
                if (told != NONE && (place >= people || told != Integer.bitCount(knows[place]))) {
                    return place;
                }
            }
            return NOBODY;
        }
    }

    /** The bytes that wait to be read, cut into words, signs and blanks. */
    private static final class Tape {
        final byte[] bytes;
        int length;

        Tape() {
            bytes = new byte[MOST_BYTES];
            length = 0;
        }

        void add(int number) {
            for (int shift = 24; shift >= 0 && length < MOST_BYTES; shift -= 8) {
                bytes[length] = (byte) (number >> shift);
                length++;
            }
        }

        /** The byte at a place, or -1 at the end. */
        int at(int place) {
            return place >= 0 && place < length ? bytes[place] & 255 : -1;
        }

        boolean hasLetter(int place) {
            return at(place) >= 'a' && at(place) <= 'z';
        }

        boolean hasDigit(int place) {
            return at(place) >= '0' && at(place) <= '9';
        }

        int behindBlanks(int from) {
            int place = from;
            while (place < length && at(place) == ' ') {
                place++;
            }
            return place;
        }

        /** The place behind the word or sign that begins at a place. */
        int behindWord(int from) {
            int place = from;
            if (hasLetter(from)) {
                while (place < length && hasLetter(place)) {
                    place++;
                }
                return place;
            }
            if (hasDigit(from)) {
                while (place < length && hasDigit(place)) {
                    place++;
                }
                return place;
            }
            return Math.min(from + 1, length);
        }

        boolean hasWord(String word, int from, int end) {
            if (end - from != word.length()) {
                return false;
            }
            for (int i = 0; i < word.length(); i++) {
                if (at(from + i) != word.charAt(i)) {
                    return false;
                }
            }
            return true;
        }

        int numberAt(int from, int end) {
            int number = 0;
            for (int place = from; place < end; place++) {
                number = number * 10 + at(place) - '0';
            }
            return number;
        }
    }

    /**
     * Reads the tape as a text, without recursion: signs that wait for what
     * stands behind them lie on a pile, and the code comes out with each sign
     * behind its pieces.
     */
    private static final class Reader {
        static final int MOST_OPEN = 8;
        static final int MOST_DIGITS = 4;
        static final int TEST_RANK = 3;
        static final int FAULT = -1;

        final Tape tape;
        final int[] code;
        int codes;
        final int[] pile;
        int piled;
        int key;
        int leaves;
        int brackets;
        int nots;
        boolean wantsPiece;

        Reader() {
            tape = new Tape();
            code = new int[MOST_BYTES];
            pile = new int[MOST_BYTES];
        }

        /** The place of the fault, or -1: then makeText makes the text. */
        int findFault() {
            codes = 0;
            piled = 0;
            leaves = 0;
            brackets = 0;
            nots = 0;
            wantsPiece = true;
            int place = tape.behindBlanks(0);
            int end = tape.behindWord(place);
            key = keyAt(place, end);
            if (key == NOBODY) {
                return place;
            }
            if (tape.hasDigit(end)) {
                return end;
            }
            for (int word = 0; word < MOST_BYTES; word++) {
                place = tape.behindBlanks(end);
                if (place >= tape.length) {
                    break;
                }
                end = wantsPiece ? takePiece(place) : takeSign(place);
                if (end == FAULT) {
                    return place;
                }
            }
            if (wantsPiece || brackets > 0) {
                return tape.length;
            }
            release(1);
            return FAULT;
        }

        Text makeText() {
            int[] copied = new int[codes];
            for (int i = 0; i < codes; i++) {
                copied[i] = code[i];
            }
            return new Text(key, leaves, copied);
        }

        int keyAt(int place, int end) {
            if (tape.hasWord("price", place, end)) {
                return PRICE_KEY;
            }
            if (tape.hasWord("look", place, end)) {
                return LOOK_KEY;
            }
            return tape.hasWord("fine", place, end) ? FINE_KEY : NOBODY;
        }

        int nameOf(int letter) {
            switch (letter) {
                case 'w': return key == FINE_KEY ? NO_NAME : FIRST_NAME;
                case 'k': return key == FINE_KEY ? NO_NAME : THIRD_NAME;
                case 'n': return key == PRICE_KEY ? SECOND_NAME : NO_NAME;
                case 's': return key == FINE_KEY ? FIRST_NAME : NO_NAME;
                case 'h': return key == FINE_KEY ? SECOND_NAME : NO_NAME;
                default: return NO_NAME;
            }
        }

        /** Takes what may begin a piece: the place behind it, or FAULT. */
        int takePiece(int place) {
            int end = tape.behindWord(place);
            int sign = tape.at(place);
            if (tape.hasDigit(place)) {
                if (end - place > MOST_DIGITS) {
                    return FAULT;
                }
                putLeaf(tape.numberAt(place, end));
            } else if (tape.hasLetter(place)) {
                if (end - place > 1 || nameOf(sign) == NO_NAME) {
                    return FAULT;
                }
                putLeaf(nameOf(sign));
            } else if (sign == '!' && nots < MOST_OPEN) {
                nots++;
                pileUp(sign);
            } else if (sign == '(' && brackets < MOST_OPEN) {
                brackets++;
                pileUp(sign);
            } else {
                return FAULT;
            }
            return end;
        }

        /** Takes what may stand behind a piece: the place behind it, or FAULT. */
        int takeSign(int place) {
            int sign = tape.at(place);
            if (sign == ')') {
                if (brackets == 0 || piled == 0) {
                    return FAULT;
                }
                release(1);
                piled--;
                brackets--;
                endPiece();
                return place + 1;
            }
            int rank = rankOf(sign);
            if (rank == 0) {
                return FAULT;
            }
            release(rank == TEST_RANK ? rank + 1 : rank);
            if (rank == TEST_RANK && topRank() == TEST_RANK) {
                return FAULT;
            }
            pileUp(sign);
            wantsPiece = true;
            return place + 1;
        }

        /** How fast a sign holds its sides; 0: it has none. */
        int rankOf(int sign) {
            switch (sign) {
                case '|': return 1;
                case '&': return 2;
                case '<': case '=': case '>': return TEST_RANK;
                case '+': case '-': return 4;
                case '*': case '/': return 5;
                default: return 0;
            }
        }

        int topRank() {
            return piled > 0 ? rankOf(pile[piled - 1]) : 0;
        }

        void pileUp(int sign) {
            if (piled < pile.length) {
                pile[piled] = sign;
                piled++;
            }
        }

        void put(int number) {
            if (codes < code.length) {
                code[codes] = number;
                codes++;
            }
        }

        void putLeaf(int number) {
            leaves++;
            put(number);
            endPiece();
        }

        /** Signs of this rank and above have both their sides now. */
        void release(int rank) {
            while (piled > 0 && topRank() >= rank) {
                piled--;
                put(-pile[piled]);
            }
        }

        /** Each ! right ahead of a piece ends with it. */
        void endPiece() {
            wantsPiece = false;
            while (piled > 0 && pile[piled - 1] == '!') {
                piled--;
                nots--;
                put(-'!');
            }
        }
    }

    /** A law; its code has numbers as they are, names -1 to -3, signs below. */
    private static final class Text {
        final int key;
        final int leaves;
        final int[] code;
        final int[] pile;

        Text(int itsKey, int itsLeaves, int[] itsCode) {
            key = itsKey;
            leaves = itsLeaves;
            code = itsCode;
            pile = new int[itsCode.length];
        }

        /** All in one method, since calls come here seven deep already. */
        int valueFor(int first, int second, int third) {
            int piled = 0;
            for (int i = 0; i < code.length; i++) {
                int sign = code[i];
                if (sign >= THIRD_NAME) {
                    if (piled < pile.length) {
                        int name = sign == FIRST_NAME ? first : sign == SECOND_NAME ? second : third;
                        pile[piled] = sign >= 0 ? sign : name;
                        piled++;
                    }
                    continue;
                }
                if (sign == -'!') {
                    if (piled > 0) {
                        pile[piled - 1] = pile[piled - 1] == 0 ? 1 : 0;
                    }
                    continue;
                }
                if (piled < 2) {
                    continue;
                }
                piled--;
                int a = pile[piled - 1];
                int b = pile[piled];
                switch (-sign) {
                    case '+': pile[piled - 1] = a + b; break;
                    case '-': pile[piled - 1] = a - b; break;
                    case '*': pile[piled - 1] = a * b; break;
                    case '/': pile[piled - 1] = b == 0 ? 0 : a / b; break;
                    case '<': pile[piled - 1] = a < b ? 1 : 0; break;
                    case '=': pile[piled - 1] = a == b ? 1 : 0; break;
                    case '>': pile[piled - 1] = a > b ? 1 : 0; break;
                    case '&': pile[piled - 1] = a != 0 && b != 0 ? 1 : 0; break;
                    default: pile[piled - 1] = a != 0 || b != 0 ? 1 : 0; break;
                }
            }
            return piled > 0 ? pile[0] : 0;
        }
    }

    /** A row of places; a place that is NONE is no number. */
    private static final class Sheet {
        int sort;
        int size;
        final int[] places;

        Sheet() {
            sort = MISSING;
            size = 0;
            places = new int[MOST_PLACES];
        }

        void lieAnew(int itsSort, int itsSize) {
            sort = itsSort;
            size = itsSize;
            for (int i = 0; i < MOST_PLACES; i++) {
                places[i] = 0;
            }
        }

        void becomes(Sheet other) {
            sort = other.sort;
            size = other.size;
            for (int i = 0; i < MOST_PLACES; i++) {
                places[i] = other.places[i];
            }
        }

        boolean hasNoPlace(int place) {
            return place < 0 || place >= size;
        }

        /** Whether so many places from one on are not all there. */
        boolean hasNoRow(int place, int many) {
            return place < 0 || many < 0 || many > size || place > size - many;
        }
    }

    /** Holds one thing; what it held before stays unread. */
    private static final class Slot {
        int holds;
        int kind;
        int asker;
        int asked;
        int number;
        final Sheet sheet;

        Slot() {
            holds = HOLDS_NOTHING;
            sheet = new Sheet();
        }

        void holdTalk(int itsKind, int p, int q) {
            kind = itsKind;
            asker = p;
            asked = q;
        }
    }
}
