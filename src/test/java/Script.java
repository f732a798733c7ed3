import java.nio.charset.StandardCharsets;
import java.util.ArrayList;
import java.util.List;

/**
 * Rows of calls, each row of them on a new object, with the answers that are
 * due: "fact 5 = 0; 2x person = 0..; law \"fine 1\" = 0". Behind each call that
 * was refused or that only asks, everything that can be seen is held against a
 * twin without that call (see Seen).
 *
 * A call: [many x] name, its numbers, [= the answer (.. each one more)].
 * Beside the face's calls: tape "..", feeds an empty tape; law "..", the same
 * and text().
 */
final class Script {
    static final int MOST_CALLS = 512;
    private static final String ONLY_ASK = " factTold personTold price told as richest fewest look keepsBack fine "
        + "textTold why reads ask item rest count ";

    private final Due due;
    private final List<Call> calls = new ArrayList<>();

    private Script(Due itsDue) {
        due = itsDue;
    }

    /** One call and, perhaps, its answer. */
    private static final class Call {
        final String name;
        final int[] args;
        final Integer want;

        Call(String itsName, int[] itsArgs, Integer itsWant) {
            name = itsName;
            args = itsArgs;
            want = itsWant;
        }

        @Override public String toString() {
            StringBuilder text = new StringBuilder(name).append('(');
            for (int i = 0; i < args.length; i++) {
                text.append(i == 0 ? "" : ", ").append(args[i]);
            }
            return text.append(')').toString();
        }
    }

    /** The sentence is what the document says; the rows make one run. */
    static void run(Due due, String sentence, String... rows) {
        due.promise(sentence);
        Script script = new Script(due);
        for (String row : rows) {
            for (String part : parts(row)) {
                script.read(part);
            }
        }
        script.play();
    }

    private static List<String> parts(String row) {
        List<String> found = new ArrayList<>();
        StringBuilder part = new StringBuilder();
        boolean quoted = false;
        for (char c : row.toCharArray()) {
            quoted ^= c == '"';
            if (c == ';' && !quoted) {
                found.add(part.toString().strip());
                part.setLength(0);
            } else {
                part.append(c);
            }
        }
        found.add(part.toString().strip());
        found.removeIf(String::isEmpty);
        return found;
    }

    private void read(String part) {
        int begin = part.indexOf('"');
        int end = part.lastIndexOf('"');
        if (begin >= 0) {
            readTape(part.substring(begin + 1, end), part.startsWith("law"), part.substring(end + 1));
            return;
        }
        int mark = part.indexOf('=');
        String answer = mark < 0 ? "" : part.substring(mark + 1).strip();
        boolean more = answer.endsWith("..");
        answer = more ? answer.substring(0, answer.length() - 2) : answer;
        String[] words = (mark < 0 ? part : part.substring(0, mark)).strip().split(" +");
        boolean repeated = words[0].matches("[0-9]+x");
        int many = repeated ? Integer.parseInt(words[0].substring(0, words[0].length() - 1)) : 1;
        int at = repeated ? 1 : 0;
        int[] args = new int[words.length - at - 1];
        for (int i = 0; i < args.length; i++) {
            args[i] = number(words[at + 1 + i]);
        }
        for (int i = 0; i < many; i++) {
            calls.add(new Call(words[at], args, answer.isEmpty() ? null : (Integer) (number(answer) + (more ? i : 0))));
        }
    }

    private void readTape(String text, boolean law, String behind) {
        byte[] bytes = text.getBytes(StandardCharsets.ISO_8859_1);
        for (int at = 0; at < bytes.length; at += 12) {
            int[] words = {Due.word(bytes, at), Due.word(bytes, at + 4), Due.word(bytes, at + 8)};
            calls.add(new Call("feed", words, at + 12));
        }
        calls.add(new Call("trim", new int[] {bytes.length}, bytes.length));
        if (law) {
            String answer = behind.replace("=", "").strip();
            calls.add(new Call("text", new int[0], answer.isEmpty() ? null : (Integer) number(answer)));
        }
    }

    static int number(String word) {
        switch (word) {
            case "BAD": return HeronTalk.BAD;
            case "NO": return HeronTalk.NO;
            case "FULL": return HeronTalk.FULL;
            case "NONE": return HeronTalk.NONE;
            case "NOTHING": return HeronTalk.NOTHING;
            case "KIND": return HeronTalk.KIND;
            case "INDEX": return HeronTalk.INDEX;
            case "SIZE": return HeronTalk.SIZE;
            case "MIN": return Integer.MIN_VALUE;
            case "MAX": return Integer.MAX_VALUE;
            default: break;
        }
        if (word.startsWith("0b")) {
            return Integer.parseInt(word.substring(2), 2);
        }
        return word.startsWith("0x") ? Integer.parseUnsignedInt(word.substring(2), 16) : Integer.parseInt(word);
    }

    private void play() {
        HeronTalk x = new HeronTalk();
        due.is("no more calls than promised", calls.size() <= MOST_CALLS);
        for (int i = 0; i < calls.size(); i++) {
            Call call = calls.get(i);
            int got = call(x, call.name, call.args);
            if (call.want != null) {
                due.is("call " + (i + 1) + ", " + call, got, call.want);
            }
            if (leavesAll(call.name, got)) {
                holdAgainstTwin(i);
            }
        }
    }

    private static boolean leavesAll(String name, int got) {
        switch (name) {
            case "seed": return false;
            case "say": return got <= 0;
            case "text": return got < 0;
            case "check": return true;
            default: return ONLY_ASK.contains(" " + name + " ") || isRefusal(got);
        }
    }

    private static boolean isRefusal(int got) {
        return got == HeronTalk.BAD || got == HeronTalk.NO || got == HeronTalk.FULL || got == HeronTalk.NOTHING
            || got == HeronTalk.KIND || got == HeronTalk.INDEX || got == HeronTalk.SIZE;
    }

    private void holdAgainstTwin(int last) {
        for (int view = 0; view < Seen.VIEWS; view++) {
            Seen one = new Seen(played(last, true));
            Seen twin = new Seen(played(last, false));
            one.look(view);
            twin.look(view);
            due.is("behind call " + (last + 1) + ", " + calls.get(last) + ", view " + view + " is as ahead of it",
                one.row().equals(twin.row()));
            due.is("no more calls than promised", last + 1 + one.calls() <= MOST_CALLS);
        }
    }

    /**
     * The calls up to one, with it or without. Where the document tells that
     * the tape or the numbers that wait are gone, the twin has none either.
     */
    private HeronTalk played(int last, boolean withLast) {
        HeronTalk x = new HeronTalk();
        String name = calls.get(last).name;
        for (int i = 0; i < last; i++) {
            boolean skipped = name.equals("check") && calls.get(i).name.equals("tell") && !withLast;
            if (!skipped) {
                call(x, calls.get(i).name, calls.get(i).args);
            }
        }
        if (withLast) {
            call(x, name, calls.get(last).args);
        } else if (name.equals("text")) {
            x.trim(0);
        }
        return x;
    }

    static int call(HeronTalk x, String name, int... a) {
        switch (name) {
            case "fact": return x.fact(a[0]);
            case "factTold": return x.factTold(a[0], a[1]);
            case "set": return x.set(a[0], a[1], a[2]);
            case "person": return x.person();
            case "personTold": return x.personTold(a[0], a[1]);
            case "knows": return x.knows(a[0], a[1], a[2]);
            case "follows": return x.follows(a[0], a[1], a[2]);
            case "price": return x.price(a[0], a[1]);
            case "deal": return x.deal();
            case "seed": return x.seed(a[0]);
            case "clock": return x.clock(a[0]);
            case "talk": return x.talk(a[0], a[1], a[2]);
            case "told": return x.told(a[0], a[1]);
            case "as": return x.as(a[0], a[1]);
            case "turns": return x.turns(a[0], a[1]);
            case "say": return x.say(a[0]);
            case "round": return x.round();
            case "market": return x.market();
            case "richest": return x.richest();
            case "fewest": return x.fewest(a[0], a[1], a[2], a[3]);
            case "look": return x.look(a[0], a[1]);
            case "find": return x.find(a[0], a[1]);
            default: return callMore(x, name, a);
        }
    }

    private static int callMore(HeronTalk x, String name, int... a) {
        switch (name) {
            case "keepsBack": return x.keepsBack(a[0]);
            case "fine": return x.fine();
            case "feed": return x.feed(a[0], a[1], a[2]);
            case "trim": return x.trim(a[0]);
            case "text": return x.text();
            case "textTold": return x.textTold(a[0], a[1]);
            case "why": return x.why(a[0]);
            case "sheet": return x.sheet(a[0], a[1], a[2]);
            case "mark": return x.mark(a[0], a[1], a[2]);
            case "pour": return x.pour(a[0]);
            case "reads": return x.reads(a[0]);
            case "copy": return x.copy(a[0], a[1], a[2], a[3], a[4]);
            case "lay": return x.lay(a[0], a[1], a[2]);
            case "ask": return x.ask(a[0], a[1]);
            case "item": return x.item(a[0], a[1]);
            case "rest": return x.rest(a[0], a[1]);
            case "tell": return x.tell(a[0]);
            case "check": return x.check(a[0]);
            case "keep": return x.keep();
            case "back": return x.back();
            case "count": return x.count(a[0]);
            default: throw new IllegalArgumentException("no call is named " + name);
        }
    }
}
