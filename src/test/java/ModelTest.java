import java.lang.reflect.Method;
import java.util.ArrayList;
import java.util.List;
import java.util.Random;

/**
 * Runs drawn by lot (always the same ones), each call's answer against the
 * model's; behind each call all that can be seen of the town is compared, too.
 */
public final class ModelTest {
    private static final int RUNS = 1500;
    private static final int CALLS = 256;
    private static final int TEXTS = 60000;
    private static final int[] FAR = {Integer.MIN_VALUE, Integer.MAX_VALUE, -1, 16, 24, 25, 31, 32, 33, 60, 96, 97, 100,
        999, 1000, 65536, -99999, 99999, 100000, HeronTalk.BAD, HeronTalk.NONE, HeronTalk.KIND, 1 << 30, -1 << 31};
    /** Of each call how often it is drawn, and the least and the most of each argument. */
    private static final String[] FACE = {
        "fact 6 0 99", "factTold 4 0 f 0 3", "set 3 0 f 0 1 0 99", "person 4", "personTold 5 0 p 0 4",
        "knows 7 0 p 0 1 s s", "follows 3 0 f 0 f 0 f", "price 4 0 f 0 p", "deal 7", "seed 1 -99 99", "clock 2 0 30",
        "talk 6 0 5 0 p 0 p", "told 9 0 t 0 6", "as 2 0 t 0 5", "turns 3 0 t 0 5", "say 6 0 t", "round 5", "market 2",
        "richest 2", "fewest 6 0 p 0 f 0 3 -1 2", "look 3 0 p 0 f", "find 3 0 p 0 f", "keepsBack 3 0 p", "fine 3",
        "feed 1 -9 9 -9 9 -9 9", "trim 1 0 96", "text 1", "textTold 2 0 14 0 1", "why 1 0 2", "sheet 2 0 3 0 1 0 24",
        "mark 9 0 3 0 9 0 9", "pour 2 0 3", "reads 3 0 3", "copy 4 0 3 0 9 0 3 0 9 0 9", "lay 6 0 4 1 3 0 t",
        "ask 5 0 4 0 5", "item 6 0 4 0 12", "rest 2 0 4 -9 9", "tell 2 0 3", "check 1 1 30", "keep 2", "back 2",
        "count 2 0 10"};
    private static final String[] BITS = {"w", "n", "k", "s", "h", "price", "look", "fine", "1", "12", "9999", "12345",
        "00", "+", "-", "*", "/", "<", "=", ">", "&", "|", "!", "(", ")", " ", "  ", "!!!", "(((", ")))", "x", "W", "%",
        "\u00e9", "\u0000", "!(", "1)", "(w", "\t"};

    private static final Due DUE = new Due();
    private final Random lot;
    private final HeronTalk real = new HeronTalk();
    private final Model model = new Model();
    private final StringBuilder told = new StringBuilder();

    private ModelTest(long number) {
        lot = new Random(number);
    }

    public static void main(String[] args) throws Exception {
        for (int run = 0; run < RUNS; run++) {
            new ModelTest(run).run(run);
        }
        for (int i = 0; i < TEXTS; i++) {
            oneText(new Random(77L * i + 1));
        }
        DUE.end();
    }

    private void run(int number) throws Exception {
        DUE.promise("run " + number);
        if (number % 5 != 0) {
            settle();
        }
        for (int i = 0; i < CALLS; i++) {
            oneAct();
            if (!looksAlike()) {
                System.out.println(told);
                DUE.end();
            }
        }
    }

    /** A town that is not empty, so that talks go from the first on. */
    private void settle() throws Exception {
        int facts = 3 + lot.nextInt(14);
        int people = 2 + lot.nextInt(7);
        for (int i = 0; i < facts; i++) {
            call("fact", lot.nextInt(100));
        }
        for (int i = 0; i < people; i++) {
            call("person");
        }
        for (int i = 0; i < people; i++) {
            call("knows", i, 0, lot.nextInt(1 << facts) & lot.nextInt(1 << facts));
            call("knows", i, 1, lot.nextInt(1 << facts) & lot.nextInt(1 << facts));
        }
        for (int i = lot.nextInt(8); i >= 0; i--) {
            call("talk", lot.nextInt(6), lot.nextInt(people), lot.nextInt(people));
        }
        for (int i = 0; i < 4; i++) {
            call("sheet", i, lot.nextInt(2), lot.nextInt(25));
            for (int place = 0; place < people; place++) {
                call("mark", i, place, lot.nextInt(5) == 0 ? HeronTalk.NONE : Integer.bitCount(real.personTold(place, 0)));
            }
        }
        for (int i = 0; i < 5; i++) {
            call("lay", i, 1 + lot.nextInt(3), lot.nextInt(4));
        }
    }

    private void oneAct() throws Exception {
        int kind = lot.nextInt(40);
        if (kind == 0) {
            law();
        } else if (kind == 1 && model.image != null) {
            rounds();
        } else {
            oneCall();
        }
    }

    private void law() throws Exception {
        String text = lot.nextInt(4) == 0 ? spoilt(lot, aText(lot)) : aText(lot);
        byte[] bytes = text.substring(0, Math.min(text.length(), 96)).getBytes("ISO-8859-1");
        call("trim", 0);
        for (int at = 0; at < bytes.length; at += 12) {
            call("feed", Due.word(bytes, at), Due.word(bytes, at + 4), Due.word(bytes, at + 8));
        }
        call("trim", bytes.length);
        call("text");
    }

    /** Tells the rounds as they are, or nearly so. */
    private void rounds() throws Exception {
        int n = 1 + lot.nextInt(30);
        List<Integer> due = new ArrayList<>(model.rounds(n));
        int how = lot.nextInt(4);
        if (how == 1 && !due.isEmpty()) {
            due.set(lot.nextInt(due.size()), lot.nextInt(4));
        } else if (how == 2) {
            due.add(0);
        } else if (how == 3 && !due.isEmpty()) {
            due.remove(lot.nextInt(due.size()));
        }
        for (int v : due) {
            call("tell", v);
        }
        call("check", n);
    }

    private void oneCall() throws Exception {
        int sum = 0;
        for (String f : FACE) {
            sum += Integer.parseInt(f.split(" ")[1]);
        }
        int drawn = lot.nextInt(sum);
        for (String f : FACE) {
            String[] parts = f.split(" ");
            drawn -= Integer.parseInt(parts[1]);
            if (drawn < 0) {
                Object[] args = new Object[(parts.length - 2) / 2];
                for (int i = 0; i < args.length; i++) {
                    args[i] = argument(parts[2 + 2 * i], parts[3 + 2 * i]);
                }
                call(parts[0], args);
                return;
            }
        }
    }

    private int bound(String part) {
        switch (part) {
            case "f": return Math.max(0, model.count(0) - 1);
            case "p": return Math.max(0, model.count(1) - 1);
            case "t": return Math.max(0, model.count(2) - 1);
            default: return Integer.parseInt(part);
        }
    }

    private int argument(String least, String most) {
        if (lot.nextInt(25) == 0) {
            return FAR[lot.nextInt(FAR.length)];
        }
        if (least.equals("s")) {
            return lot.nextInt(1 << model.count(0)) & (lot.nextBoolean() ? -1 : lot.nextInt());
        }
        int low = bound(least);
        int high = bound(most);
        if (lot.nextInt(25) == 0) {
            return lot.nextBoolean() ? low - 1 : high + 1;
        }
        return low + lot.nextInt(high - low + 1);
    }

    private void call(String name, Object... args) throws Exception {
        Class<?>[] types = new Class<?>[args.length];
        StringBuilder text = new StringBuilder(name).append('(');
        for (int i = 0; i < args.length; i++) {
            types[i] = int.class;
            text.append(i == 0 ? "" : ", ").append(args[i]);
        }
        text.append(')');
        Method one = HeronTalk.class.getMethod(name, types);
        Method other = Model.class.getMethod(name, types);
        int want = (Integer) other.invoke(model, args);
        int got = (Integer) one.invoke(real, args);
        told.append(text).append(" = ").append(got).append('\n');
        DUE.is(text.toString(), got, want);
    }

    private boolean looksAlike() {
        boolean alike = true;
        for (int what = 0; what < 11; what++) {
            alike &= real.count(what) == model.count(what);
        }
        for (int i = 0; i < model.count(1); i++) {
            alike &= real.personTold(i, 0) == model.personTold(i, 0);
            alike &= real.personTold(i, 1) == model.personTold(i, 1);
        }
        for (int i = 0; i < model.count(0); i++) {
            alike &= real.factTold(i, 0) == model.factTold(i, 0) && real.factTold(i, 1) == model.factTold(i, 1);
        }
        for (int i = 0; i < model.count(2); i++) {
            for (int what = 0; what < 3; what++) {
                alike &= real.told(i, what) == model.told(i, what);
            }
        }
        DUE.is("what can be seen", alike);
        return alike;
    }

    private static String aText(Random lot) {
        String[] keys = {"price", "look", "fine"};
        String[] names = {"wnk", "wk", "sh"};
        int key = lot.nextInt(3);
        return keys[key] + " " + anE(lot, names[key], 3);
    }

    private static String anE(Random lot, String names, int depth) {
        int how = lot.nextInt(depth <= 0 ? 2 : 6);
        if (how == 0) {
            return Integer.toString(lot.nextInt(lot.nextBoolean() ? 10 : 200));
        }
        if (how == 1) {
            return names.substring(lot.nextInt(names.length())).substring(0, 1);
        }
        if (how == 2) {
            return "(" + anE(lot, names, depth - 1) + ")";
        }
        if (how == 3) {
            return "!(" + anE(lot, names, depth - 2) + ")";
        }
        String sign = "+-*/+-*/<=>&|".charAt(lot.nextInt(13)) + (lot.nextInt(9) == 0 ? " " : "");
        return anE(lot, names, depth - 1) + sign + anE(lot, names, depth - 1);
    }

    private static String spoilt(Random lot, String text) {
        StringBuilder spoilt = new StringBuilder(text);
        for (int i = lot.nextInt(3); i >= 0; i--) {
            int at = lot.nextInt(spoilt.length() + 1);
            if (lot.nextBoolean() || at == spoilt.length()) {
                spoilt.insert(at, BITS[lot.nextInt(BITS.length)]);
            } else {
                spoilt.deleteCharAt(at);
            }
        }
        return spoilt.toString();
    }

    /** Texts alone, right and wrong: number or fault, and what they give. */
    private static void oneText(Random lot) throws Exception {
        StringBuilder made = new StringBuilder();
        if (lot.nextInt(3) == 0) {
            made.append(lot.nextInt(8) == 0 ? "" : "fine ");
            for (int i = lot.nextInt(20); i >= 0; i--) {
                made.append(BITS[lot.nextInt(BITS.length)]);
            }
        } else {
            made.append(lot.nextInt(3) == 0 ? aText(lot) : spoilt(lot, aText(lot)));
        }
        String text = made.substring(0, Math.min(made.length(), 96));
        HeronTalk real = Due.town(1, 1);
        Model model = new Model();
        model.fact(10);
        model.person();
        real.clock(7);
        model.clock(7);
        byte[] bytes = text.getBytes("ISO-8859-1");
        Due.tape(real, bytes);
        for (byte b : bytes) {
            model.tape.add(b & 255);
        }
        DUE.promise("\"" + text + "\"");
        DUE.is("text()", real.text(), model.text());
        DUE.is("fine()", real.fine(), model.fine());
        DUE.is("price(0, 0)", real.price(0, 0), model.price(0, 0));
        DUE.is("look(0, 0)", real.look(0, 0), model.look(0, 0));
        DUE.is("textTold(0, 0)", real.textTold(0, 0), model.textTold(0, 0));
        DUE.is("textTold(0, 1)", real.textTold(0, 1), model.textTold(0, 1));
    }
}
