import java.util.ArrayList;
import java.util.HashMap;
import java.util.List;
import java.util.Map;
import java.util.TreeSet;

/**
 * The document once more, written in other ways than the class: sets of
 * numbers for bits, classes for kinds, a grammar that only says whether a whole
 * text is one, rows that are all tried. Slow and plain; its methods bear the
 * names of the face.
 */
public final class Model {
    static final int BAD = -1000000001, NO = -1000000002, FULL = -1000000003, NONE = -1000000005;
    static final int NOTHING = -1000000011, KIND = -1000000012, INDEX = -1000000013, SIZE = -1000000014;

    static final class Fact {
        int worth;
        int till = 999;
    }

    static final class Person {
        TreeSet<Integer> knows = new TreeSet<>();
        TreeSet<Integer> needs = new TreeSet<>();
    }

    /** All that an image keeps. */
    static final class State {
        List<Fact> facts = new ArrayList<>();
        List<Person> people = new ArrayList<>();
        List<int[]> rules = new ArrayList<>();
        List<Talk> talks = new ArrayList<>();
        List<Law> laws = new ArrayList<>();
        int hour = 0;
        int said = 0;
        int z = 1;

        State copied() {
            State s = new State();
            for (Fact f : facts) {
                Fact g = new Fact();
                g.worth = f.worth;
                g.till = f.till;
                s.facts.add(g);
            }
            for (Person p : people) {
                Person r = new Person();
                r.knows.addAll(p.knows);
                r.needs.addAll(p.needs);
                s.people.add(r);
            }
            for (int[] rule : rules) {
                s.rules.add(rule.clone());
            }
            for (Talk t : talks) {
                s.talks.add(Talk.of(t.kind(), t.p, t.q));
            }
            s.laws.addAll(laws);
            s.hour = hour;
            s.said = said;
            s.z = z;
            return s;
        }

        void follow() {
            boolean more = true;
            while (more) {
                more = false;
                for (Person p : people) {
                    for (int[] r : rules) {
                        if (p.knows.contains(r[0]) && p.knows.contains(r[1]) && p.knows.add(r[2])) {
                            more = true;
                        }
                    }
                }
            }
        }

        int knowers(int fact) {
            int n = 0;
            for (Person p : people) {
                n += p.knows.contains(fact) ? 1 : 0;
            }
            return n;
        }

        boolean fresh(int fact) {
            return facts.get(fact).till >= hour;
        }

        Law law(String key) {
            Law found = null;
            for (Law l : laws) {
                if (l.key.equals(key)) {
                    found = l;
                }
            }
            return found;
        }

        int price(int fact, int person) {
            int w = facts.get(fact).worth;
            int n = people.get(person).needs.contains(fact) ? 1 : 0;
            Law law = law("price");
            int v = law == null ? (n == 1 ? w + 100 : w) : law.value(Map.of("w", w, "n", n, "k", knowers(fact)));
            return v < 0 ? 0 : v > 999 ? 999 : v;
        }

        int look(int fact) {
            Law law = law("look");
            int v = law == null ? 10 - knowers(fact)
                : law.value(Map.of("w", facts.get(fact).worth, "k", knowers(fact)));
            return v < 1 ? 1 : v > 99 ? 99 : v;
        }

        int together() {
            int sum = 0;
            for (Person p : people) {
                sum += p.knows.size();
            }
            return sum;
        }

        int draw() {
            z = z * 1103515245 + 12345;
            return z >>> 8;
        }

        int round() {
            int n = 0;
            for (Talk t : talks) {
                n += t.say(this) ? 1 : 0;
            }
            hour++;
            return n;
        }
    }

    /** Kind 0; what it does, the kinds under it do but where they say otherwise. */
    static class Talk {
        int p;
        int q;

        static Talk of(int kind, int p, int q) {
            Talk t = kind == 0 ? new Talk() : kind == 1 ? new Fair() : kind == 2 ? new Generous()
                : kind == 3 ? new Chain() : kind == 4 ? new Hermit() : new Open();
            t.p = p;
            t.q = q;
            return t;
        }

        static Class<?> classOf(int kind) {
            return of(kind, 0, 0).getClass();
        }

        int kind() {
            return 0;
        }

        List<Integer> canTell(State s, int from, int to) {
            List<Integer> found = new ArrayList<>();
            for (int f : s.people.get(from).knows) {
                if (s.fresh(f) && !s.people.get(to).knows.contains(f)) {
                    found.add(f);
                }
            }
            return found;
        }

        Integer given(State s) {
            Integer best = null;
            for (int f : canTell(s, p, q)) {
                if (best == null || s.price(f, q) < s.price(best, q)) {
                    best = f;
                }
            }
            return best;
        }

        boolean mayGet(State s, int fact) {
            return true;
        }

        Integer got(State s) {
            Integer best = null;
            for (int f : canTell(s, q, p)) {
                if (mayGet(s, f) && (best == null || s.price(f, p) > s.price(best, p))) {
                    best = f;
                }
            }
            return best;
        }

        boolean goes(State s) {
            return given(s) != null && got(s) != null;
        }

        int worth(State s) {
            Integer in = got(s);
            Integer out = given(s);
            return (in == null ? 0 : s.price(in, p)) - (out == null ? 0 : s.price(out, q));
        }

        void then(State s, Integer out) {
        }

        final boolean say(State s) {
            if (!goes(s)) {
                return false;
            }
            Integer out = given(s);
            Integer in = got(s);
            if (out != null) {
                s.people.get(q).knows.add(out);
            }
            s.people.get(p).knows.add(in);
            then(s, out);
            s.follow();
            s.said++;
            return true;
        }
    }

    static class Fair extends Talk {
        @Override int kind() {
            return 1;
        }

        @Override boolean mayGet(State s, int fact) {
            Integer out = given(s);
            return out != null && s.price(fact, p) <= s.price(out, q);
        }

        @Override int worth(State s) {
            return super.worth(s) + 10;
        }
    }

    static class Chain extends Fair {
        @Override int kind() {
            return 3;
        }

        @Override int worth(State s) {
            return 2 * super.worth(s);
        }

        @Override void then(State s, Integer out) {
            s.people.get((q + 1) % s.people.size()).knows.add(out);
        }
    }

    static class Generous extends Talk {
        @Override int kind() {
            return 2;
        }

        @Override Integer given(State s) {
            Integer best = null;
            for (int f : canTell(s, p, q)) {
                if (best == null || s.price(f, q) > s.price(best, q)) {
                    best = f;
                }
            }
            return best;
        }

        @Override int worth(State s) {
            return super.worth(s) - 5;
        }
    }

    static class Hermit extends Generous {
        @Override int kind() {
            return 4;
        }

        @Override Integer given(State s) {
            return null;
        }

        @Override boolean goes(State s) {
            return got(s) != null;
        }

        @Override int worth(State s) {
            return super.worth(s) + 3;
        }
    }

    static class Open extends Talk {
        @Override int kind() {
            return 5;
        }

        @Override int worth(State s) {
            return s.people.get(p).knows.size() + s.people.get(q).knows.size();
        }

        @Override void then(State s, Integer out) {
            s.follow();
            s.people.get(p).knows.addAll(s.people.get(q).knows);
            s.people.get(q).knows.addAll(s.people.get(p).knows);
        }
    }

    /** A text: its words and signs, worked out anew each time by the grammar. */
    static final class Law {
        final String key;
        final List<String> words;

        Law(List<String> all) {
            key = all.get(0);
            words = all.subList(1, all.size());
        }

        int value(Map<String, Integer> names) {
            Grammar g = new Grammar(words, names, "");
            return g.or();
        }

        int leaves() {
            int n = 0;
            for (String w : words) {
                n += Character.isLetterOrDigit(w.charAt(0)) ? 1 : 0;
            }
            return n;
        }
    }

    /** By the letter of E; fails (once and for all) where a word is not due. */
    static final class Grammar {
        final List<String> words;
        final Map<String, Integer> names;
        final String allowed;
        int at = 0;
        int brackets = 0;
        int nots = 0;
        boolean failed = false;

        Grammar(List<String> words, Map<String, Integer> names, String allowed) {
            this.words = words;
            this.names = names;
            this.allowed = allowed;
        }

        String next() {
            return at < words.size() ? words.get(at) : "";
        }

        boolean takes(String signs) {
            if (!failed && next().length() == 1 && signs.contains(next())) {
                at++;
                return true;
            }
            return false;
        }

        int or() {
            int v = and();
            while (takes("|")) {
                int w = and();
                v = v != 0 | w != 0 ? 1 : 0;
            }
            return v;
        }

        int and() {
            int v = test();
            while (takes("&")) {
                int w = test();
                v = v != 0 & w != 0 ? 1 : 0;
            }
            return v;
        }

        int test() {
            int v = sum();
            if (takes("<")) {
                return v < sum() ? 1 : 0;
            }
            if (takes("=")) {
                return v == sum() ? 1 : 0;
            }
            if (takes(">")) {
                return v > sum() ? 1 : 0;
            }
            return v;
        }

        int sum() {
            int v = term();
            while (true) {
                if (takes("+")) {
                    v += term();
                } else if (takes("-")) {
                    v -= term();
                } else {
                    return v;
                }
            }
        }

        int term() {
            int v = piece();
            while (true) {
                if (takes("*")) {
                    v *= piece();
                } else if (takes("/")) {
                    int by = piece();
                    v = by == 0 ? 0 : v / by;
                } else {
                    return v;
                }
            }
        }

        int piece() {
            String w = next();
            if (failed || w.isEmpty()) {
                failed = true;
                return 0;
            }
            if (takes("!")) {
                nots++;
                failed |= nots > 8;
                int v = piece() == 0 ? 1 : 0;
                nots--;
                return v;
            }
            if (takes("(")) {
                brackets++;
                failed |= brackets > 8;
                int v = or();
                failed |= !takes(")");
                brackets--;
                return v;
            }
            at++;
            if (w.charAt(0) >= '0' && w.charAt(0) <= '9') {
                failed |= w.length() > 4;
                return failed ? 0 : Integer.parseInt(w);
            }
            if (names != null) {
                return names.get(w);
            }
            failed |= w.length() != 1 || !allowed.contains(w);
            return 0;
        }
    }

    /** Whether words (the key ahead) are a whole text. */
    static boolean isText(List<String> words) {
        if (words.isEmpty()) {
            return false;
        }
        String key = words.get(0);
        String allowed = key.equals("price") ? "wnk" : key.equals("look") ? "wk" : key.equals("fine") ? "sh" : null;
        if (allowed == null) {
            return false;
        }
        Grammar g = new Grammar(words.subList(1, words.size()), null, allowed);
        g.or();
        return !g.failed && g.at == words.size() - 1;
    }

    /** Whether some text begins with these words: a piece and brackets are put behind them. */
    static boolean goesOn(List<String> words) {
        for (int piece = 0; piece < 2; piece++) {
            List<String> tried = new ArrayList<>(words);
            if (piece == 1) {
                tried.add("1");
            }
            for (int brackets = 0; brackets <= 8; brackets++) {
                if (isText(tried)) {
                    return true;
                }
                tried.add(")");
            }
        }
        return false;
    }

    static boolean letter(int b) {
        return b >= 'a' && b <= 'z';
    }

    static boolean digit(int b) {
        return b >= '0' && b <= '9';
    }

    /** Cuts bytes into words; answers the fault, or -1. */
    static int read(List<Integer> tape, List<String> words) {
        int at = 0;
        int wordEnd = -1;
        while (at < tape.size()) {
            int b = tape.get(at);
            if (b == 32) {
                at++;
                continue;
            }
            int end = at + 1;
            while (end < tape.size() && (letter(b) && letter(tape.get(end)) || digit(b) && digit(tape.get(end)))) {
                end++;
            }
            StringBuilder w = new StringBuilder();
            for (int i = at; i < end; i++) {
                w.append((char) (int) tape.get(i));
            }
            boolean isWord = letter(b) || digit(b);
            if (isWord && wordEnd == at) {
                return at;
            }
            words.add(w.toString());
            if (!goesOn(words)) {
                return at;
            }
            wordEnd = isWord ? end : -1;
            at = end;
        }
        return isText(words) ? -1 : tape.size();
    }

    State s = new State();
    State image = null;
    final List<Integer> tape = new ArrayList<>();
    final List<Integer> waiting = new ArrayList<>();
    final Map<Integer, Float[]> floats = new HashMap<>();
    final Map<Integer, short[]> shorts = new HashMap<>();
    final Object[] slots = new Object[5];

    static int bits(Iterable<Integer> set) {
        int v = 0;
        for (int i : set) {
            v += 1 << i;
        }
        return v;
    }

    static int orNone(Integer v) {
        return v == null ? NONE : v;
    }

    boolean noFact(int f) {
        return f < 0 || f >= s.facts.size();
    }

    boolean noPerson(int p) {
        return p < 0 || p >= s.people.size();
    }

    boolean noTalk(int t) {
        return t < 0 || t >= s.talks.size();
    }

    public int fact(int worth) {
        if (worth < 0 || worth > 99) {
            return BAD;
        }
        if (s.facts.size() == 16) {
            return FULL;
        }
        Fact f = new Fact();
        f.worth = worth;
        s.facts.add(f);
        return s.facts.size() - 1;
    }

    public int factTold(int fact, int what) {
        if (noFact(fact) || what < 0 || what > 3) {
            return BAD;
        }
        if (what == 3) {
            int set = 0;
            for (int i = 0; i < s.people.size(); i++) {
                set += s.people.get(i).knows.contains(fact) ? 1 << i : 0;
            }
            return set;
        }
        Fact f = s.facts.get(fact);
        return what == 0 ? f.worth : what == 1 ? f.till : s.fresh(fact) ? 1 : 0;
    }

    public int set(int fact, int what, int v) {
        if (noFact(fact) || what < 0 || what > 1 || v < 0 || v > (what == 0 ? 99 : 999)) {
            return BAD;
        }
        Fact f = s.facts.get(fact);
        int was = what == 0 ? f.worth : f.till;
        if (what == 0) {
            f.worth = v;
        } else {
            f.till = v;
        }
        return was;
    }

    public int person() {
        if (s.people.size() == 8) {
            return FULL;
        }
        s.people.add(new Person());
        return s.people.size() - 1;
    }

    int riches(int person) {
        int sum = 0;
        for (int f : s.people.get(person).knows) {
            sum += s.facts.get(f).worth;
        }
        return sum;
    }

    public int personTold(int person, int what) {
        if (noPerson(person) || what < 0 || what > 4) {
            return BAD;
        }
        Person p = s.people.get(person);
        if (what == 0) {
            return bits(p.knows);
        }
        if (what == 1) {
            return bits(p.needs);
        }
        if (what == 2) {
            TreeSet<Integer> lacks = new TreeSet<>(p.needs);
            lacks.removeAll(p.knows);
            return bits(lacks);
        }
        if (what == 4) {
            return riches(person);
        }
        int news = 0;
        for (int f : p.knows) {
            news += s.fresh(f) && s.knowers(f) == 1 ? 1 : 0;
        }
        return news;
    }

    public int knows(int person, int what, int set) {
        if (noPerson(person) || what < 0 || what > 1) {
            return BAD;
        }
        TreeSet<Integer> now = new TreeSet<>();
        for (int i = 0; i < 32; i++) {
            if ((set >>> i & 1) == 1) {
                if (noFact(i)) {
                    return BAD;
                }
                now.add(i);
            }
        }
        Person p = s.people.get(person);
        int was = bits(what == 0 ? p.knows : p.needs);
        if (what == 0) {
            p.knows = now;
        } else {
            p.needs = now;
        }
        s.follow();
        return was;
    }

    public int follows(int a, int b, int c) {
        if (noFact(a) || noFact(b) || noFact(c)) {
            return BAD;
        }
        if (s.rules.size() == 8) {
            return FULL;
        }
        s.rules.add(new int[] {a, b, c});
        s.follow();
        return s.rules.size();
    }

    public int price(int fact, int person) {
        return noFact(fact) || noPerson(person) ? BAD : s.price(fact, person);
    }

    public int deal() {
        for (Person p : s.people) {
            int knows = s.draw() % 65536;
            int needs = s.draw() % 65536;
            p.knows.clear();
            p.needs.clear();
            for (int f = 0; f < s.facts.size(); f++) {
                if ((knows >> f) % 2 == 1) {
                    p.knows.add(f);
                }
                if ((needs >> f) % 2 == 1) {
                    p.needs.add(f);
                }
            }
        }
        s.follow();
        return s.together();
    }

    public int seed(int v) {
        int was = s.z;
        s.z = v;
        return was;
    }

    public int clock(int v) {
        if (v < 0 || v > 999) {
            return BAD;
        }
        int was = s.hour;
        s.hour = v;
        return was;
    }

    public int talk(int kind, int p, int q) {
        if (kind < 0 || kind > 5 || noPerson(p) || noPerson(q) || p == q) {
            return BAD;
        }
        if (s.talks.size() == 8) {
            return FULL;
        }
        s.talks.add(Talk.of(kind, p, q));
        return s.talks.size() - 1;
    }

    public int told(int talk, int what) {
        if (noTalk(talk)) {
            return BAD;
        }
        Talk t = s.talks.get(talk);
        return switch (what) {
            case 0 -> t.kind();
            case 1 -> t.p;
            case 2 -> t.q;
            case 3 -> orNone(t.given(s));
            case 4 -> orNone(t.got(s));
            case 5 -> t.goes(s) ? 1 : 0;
            case 6 -> t.worth(s);
            default -> BAD;
        };
    }

    public int as(int talk, int kind) {
        if (noTalk(talk) || kind < 0 || kind > 5) {
            return BAD;
        }
        Talk t = s.talks.get(talk);
        return Talk.classOf(kind).isInstance(t) ? t.p : KIND;
    }

    public int turns(int talk, int kind) {
        if (noTalk(talk) || kind < 0 || kind > 5) {
            return BAD;
        }
        Talk t = s.talks.get(talk);
        s.talks.set(talk, Talk.of(kind, t.p, t.q));
        return t.kind();
    }

    public int say(int talk) {
        return noTalk(talk) ? BAD : s.talks.get(talk).say(s) ? 1 : 0;
    }

    public int round() {
        return s.hour == 999 ? NO : s.round();
    }

    public int market() {
        int n = 0;
        boolean on = true;
        while (on && s.hour != 999) {
            on = s.round() > 0;
            n++;
        }
        return n;
    }

    public int richest() {
        int best = NONE;
        for (int i = s.people.size() - 1; i >= 0; i--) {
            if (best == NONE || riches(i) >= riches(best)) {
                best = i;
            }
        }
        return best;
    }

    public int fewest(int person, int fact, int n, int what) {
        if (noPerson(person) || noFact(fact) || n < 0 || n > 3 || what < -1) {
            return BAD;
        }
        int many = s.people.size();
        int rows = 1;
        for (int length = 0; length <= n; length++) {
            for (int row = 0; row < rows; row++) {
                int[] asked = new int[length];
                int left = row;
                for (int i = length - 1; i >= 0; i--) {
                    asked[i] = left % many;
                    left /= many;
                }
                if (comesBy(person, fact, asked)) {
                    return what == -1 ? length : what < length ? asked[what] : NONE;
                }
            }
            rows *= many;
        }
        return NONE;
    }

    private boolean comesBy(int person, int fact, int[] asked) {
        State thought = s.copied();
        for (int q : asked) {
            if (q == person || !Talk.of(0, person, q).say(thought)) {
                return false;
            }
        }
        return thought.people.get(person).knows.contains(fact);
    }

    public int look(int person, int fact) {
        if (noPerson(person) || noFact(fact)) {
            return BAD;
        }
        return s.people.get(person).knows.contains(fact) ? NO : s.look(fact);
    }

    public int find(int person, int fact) {
        int hours = look(person, fact);
        if (hours < 0) {
            return hours;
        }
        s.people.get(person).knows.add(fact);
        s.follow();
        s.hour += hours;
        if (s.hour > 999) {
            s.hour = 999;
        }
        return s.hour;
    }

    public int keepsBack(int person) {
        if (noPerson(person)) {
            return BAD;
        }
        int best = NONE;
        int most = -1;
        for (int f : s.people.get(person).knows) {
            int sum = 0;
            for (int i = 0; i < s.people.size(); i++) {
                sum += s.people.get(i).knows.contains(f) ? 0 : s.price(f, i);
            }
            if (s.fresh(f) && sum > most) {
                most = sum;
                best = f;
            }
        }
        return best;
    }

    public int fine() {
        Law law = s.law("fine");
        return law == null ? 0 : law.value(Map.of("s", s.said, "h", s.hour));
    }

    public int feed(int a, int b, int c) {
        if (tape.size() > 84) {
            return FULL;
        }
        for (int v : new int[] {a, b, c}) {
            tape.add(v >>> 24);
            tape.add(v >>> 16 & 255);
            tape.add(v >>> 8 & 255);
            tape.add(v & 255);
        }
        return tape.size();
    }

    public int trim(int n) {
        if (n < 0 || n > tape.size()) {
            return BAD;
        }
        while (tape.size() > n) {
            tape.remove(tape.size() - 1);
        }
        return n;
    }

    public int text() {
        List<String> words = new ArrayList<>();
        int fault = read(tape, words);
        tape.clear();
        if (fault >= 0) {
            return -100 - fault;
        }
        if (s.laws.size() == 14) {
            return FULL;
        }
        s.laws.add(new Law(words));
        return s.laws.size() - 1;
    }

    static int keyNumber(String key) {
        return List.of("price", "look", "fine").indexOf(key);
    }

    public int textTold(int text, int what) {
        if (text < 0 || text >= s.laws.size() || what < 0 || what > 1) {
            return BAD;
        }
        Law law = s.laws.get(text);
        return what == 0 ? keyNumber(law.key) : law.leaves();
    }

    public int why(int key) {
        if (key < 0 || key > 2) {
            return BAD;
        }
        int found = NONE;
        for (int i = 0; i < s.laws.size(); i++) {
            found = keyNumber(s.laws.get(i).key) == key ? i : found;
        }
        return found;
    }

    /** The places of a sheet, null for no number; null for none at all. */
    Integer[] places(int sheet) {
        if (shorts.containsKey(sheet)) {
            short[] row = shorts.get(sheet);
            Integer[] found = new Integer[row.length];
            for (int i = 0; i < row.length; i++) {
                found[i] = (int) row[i];
            }
            return found;
        }
        if (floats.containsKey(sheet)) {
            Float[] row = floats.get(sheet);
            Integer[] found = new Integer[row.length];
            for (int i = 0; i < row.length; i++) {
                found[i] = row[i] == null ? null : (Integer) row[i].intValue();
            }
            return found;
        }
        return null;
    }

    static boolean noSheet(int sheet) {
        return sheet < 0 || sheet > 3;
    }

    public int sheet(int sheet, int sort, int n) {
        if (noSheet(sheet) || sort < -1 || sort > 1 || sort != -1 && n > 24) {
            return BAD;
        }
        if (sort != -1 && n < 0) {
            return SIZE;
        }
        shorts.remove(sheet);
        floats.remove(sheet);
        if (sort == 0) {
            shorts.put(sheet, new short[n]);
        } else if (sort == 1) {
            Float[] row = new Float[n];
            java.util.Arrays.fill(row, 0f);
            floats.put(sheet, row);
        }
        return sort == -1 ? 0 : n;
    }

    public int mark(int sheet, int place, int v) {
        if (noSheet(sheet)) {
            return BAD;
        }
        Integer[] row = places(sheet);
        if (row == null) {
            return NOTHING;
        }
        if (place < 0 || place >= row.length) {
            return INDEX;
        }
        if (shorts.containsKey(sheet)) {
            if (v == NONE) {
                return KIND;
            }
            shorts.get(sheet)[place] = (short) v;
            return 1;
        }
        if (v != NONE && (v < -99999 || v > 99999)) {
            return BAD;
        }
        floats.get(sheet)[place] = v == NONE ? null : (Float) (float) v;
        return 1;
    }

    public int pour(int sheet) {
        if (noSheet(sheet)) {
            return BAD;
        }
        Integer[] row = places(sheet);
        if (row == null) {
            return NOTHING;
        }
        int otherwise = 0;
        for (int i = 0; i < row.length; i++) {
            if (!noFact(i) && row[i] != null) {
                otherwise += set(i, 0, Math.min(99, Math.max(0, row[i]))) == factTold(i, 0) ? 0 : 1;
            }
        }
        return otherwise;
    }

    public int reads(int sheet) {
        if (noSheet(sheet)) {
            return BAD;
        }
        Integer[] row = places(sheet);
        if (row == null) {
            return NOTHING;
        }
        for (int i = 0; i < row.length; i++) {
            if (row[i] != null && (noPerson(i) || s.people.get(i).knows.size() != row[i])) {
                return i;
            }
        }
        return NONE;
    }

    public int copy(int from, int place, int to, int at, int many) {
        if (noSheet(from) || noSheet(to)) {
            return BAD;
        }
        if (places(from) == null || places(to) == null) {
            return NOTHING;
        }
        if (shorts.containsKey(from) != shorts.containsKey(to)) {
            return KIND;
        }
        // as the machine does it: a number of places below 0 is an index, too
        try {
            if (shorts.containsKey(from)) {
                System.arraycopy(shorts.get(from), place, shorts.get(to), at, many);
            } else {
                System.arraycopy(floats.get(from), place, floats.get(to), at, many);
            }
        } catch (IndexOutOfBoundsException e) {
            return INDEX;
        }
        return many;
    }

    public int lay(int slot, int thing, int k) {
        if (slot < 0 || slot > 4 || thing < 0 || thing > 3 || thing == 1 && noTalk(k) || thing == 2 && noSheet(k)) {
            return BAD;
        }
        if (thing == 2 && places(k) == null) {
            return NOTHING;
        }
        Object was = slots[slot];
        if (thing == 0) {
            slots[slot] = null;
        } else if (thing == 1) {
            Talk t = s.talks.get(k);
            slots[slot] = Talk.of(t.kind(), t.p, t.q);
        } else {
            slots[slot] = thing == 2 ? places(k) : (Object) Integer.valueOf(k);
        }
        return was == null ? 0 : was instanceof Talk ? 1 : was instanceof Integer ? 3 : 2;
    }

    public int ask(int slot, int kind) {
        if (slot < 0 || slot > 4 || kind < 0 || kind > 5) {
            return BAD;
        }
        if (slots[slot] == null) {
            return NOTHING;
        }
        if (!Talk.classOf(kind).isInstance(slots[slot])) {
            return KIND;
        }
        Talk t = (Talk) slots[slot];
        return noPerson(t.p) || noPerson(t.q) ? NO : t.worth(s);
    }

    public int item(int slot, int place) {
        if (slot < 0 || slot > 4) {
            return BAD;
        }
        if (slots[slot] == null) {
            return NOTHING;
        }
        if (!(slots[slot] instanceof Integer[] row)) {
            return KIND;
        }
        if (place < 0 || place >= row.length) {
            return INDEX;
        }
        return row[place] == null ? KIND : row[place];
    }

    public int rest(int slot, int n) {
        if (slot < 0 || slot > 4) {
            return BAD;
        }
        if (slots[slot] == null) {
            return NOTHING;
        }
        if (!(slots[slot] instanceof Integer number)) {
            return KIND;
        }
        return n == 0 ? NO : (int) ((long) number % n);
    }

    public int tell(int v) {
        if (waiting.size() == 60) {
            return FULL;
        }
        waiting.add(v);
        return waiting.size();
    }

    public int check(int n) {
        List<Integer> held = new ArrayList<>(waiting);
        waiting.clear();
        if (n < 1 || n > 30) {
            return BAD;
        }
        if (image == null) {
            return NO;
        }
        List<Integer> due = rounds(n);
        if (due.equals(held)) {
            return 0;
        }
        int same = 0;
        while (same < due.size() && same < held.size() && due.get(same).equals(held.get(same))) {
            same++;
        }
        return 1 + same;
    }

    /** The rounds told of n, by the image. */
    List<Integer> rounds(int n) {
        State thought = image.copied();
        List<Integer> due = new ArrayList<>();
        for (int i = 0; i < n && thought.hour != 999; i++) {
            due.add(thought.round());
            due.add(thought.together());
        }
        return due;
    }

    public int keep() {
        image = s.copied();
        return s.talks.size();
    }

    public int back() {
        if (image == null) {
            return NO;
        }
        s = image.copied();
        return s.talks.size();
    }

    public int count(int what) {
        return switch (what) {
            case 0 -> s.facts.size();
            case 1 -> s.people.size();
            case 2 -> s.talks.size();
            case 3 -> s.rules.size();
            case 4 -> s.hour;
            case 5 -> s.said;
            case 6 -> s.together();
            case 7 -> s.laws.size();
            case 8 -> waiting.size();
            case 9 -> tape.size();
            case 10 -> s.z;
            default -> BAD;
        };
    }
}
