import java.lang.reflect.Constructor;
import java.lang.reflect.Field;
import java.lang.reflect.Member;
import java.lang.reflect.Method;
import java.lang.reflect.Modifier;
import java.nio.charset.StandardCharsets;
import java.nio.file.Files;
import java.nio.file.Path;
import java.util.Arrays;
import java.util.List;
import java.util.TreeSet;
import java.util.regex.Matcher;
import java.util.regex.Pattern;

/** The public face, and what can be seen of the language's rules. */
public final class FaceTest {
    private static final Due DUE = new Due();
    private static final String METHODS = "fact1 factTold2 set3 person0 personTold2 knows3 follows3 price2 deal0 seed1 "
        + "clock1 talk3 told2 as2 turns2 say1 round0 market0 richest0 fewest4 look2 find2 keepsBack1 fine0 feed3 trim1 "
        + "text0 textTold2 why1 sheet3 mark3 pour1 reads1 copy5 lay3 ask2 item2 rest2 tell1 check1 keep0 back0 count1";
    private static final String CONSTANTS = "BAD NO FULL NONE NOTHING KIND INDEX SIZE";
    private static final String FORBIDDEN = "throw|throws|try|catch|finally|synchronized|assert|import|package|volatile|"
        + "transient|native|Object|Exception|Random|System\\.(?!arraycopy)\\w+|\\w+Exact|hashCode|toString|::|->";

    public static void main(String[] args) throws Exception {
        face();
        classesInside();
        source();
        DUE.end();
    }

    private static TreeSet<String> row(String words) {
        return new TreeSet<>(Arrays.asList(words.split(" ")));
    }

    private static void face() {
        DUE.promise("the face");
        DUE.is("public and final", HeronTalk.class.getModifiers(), Modifier.PUBLIC | Modifier.FINAL);
        TreeSet<String> methods = new TreeSet<>();
        for (Method m : HeronTalk.class.getDeclaredMethods()) {
            if (isSeen(m)) {
                methods.add(m.getName() + m.getParameterCount());
                boolean ints = m.getReturnType() == int.class && !Modifier.isStatic(m.getModifiers());
                for (Class<?> t : m.getParameterTypes()) {
                    ints &= t == int.class;
                }
                DUE.is(m + " takes and gives ints", ints);
            }
        }
        DUE.is("methods " + methods, methods.equals(row(METHODS)));
        TreeSet<String> constants = new TreeSet<>();
        for (Field f : HeronTalk.class.getDeclaredFields()) {
            if (isSeen(f)) {
                constants.add(f.getName());
            }
        }
        DUE.is("constants " + constants, constants.equals(row(CONSTANTS)));
        Constructor<?>[] made = HeronTalk.class.getDeclaredConstructors();
        DUE.is("one constructor", made.length, 1);
        DUE.is("public", Modifier.isPublic(made[0].getModifiers()));
        DUE.is("without parameters", made[0].getParameterCount(), 0);
    }

    private static boolean isSeen(Member m) {
        return !Modifier.isPrivate(m.getModifiers()) && !m.isSynthetic();
    }

    private static void classesInside() {
        DUE.promise("rules 1, 2, 5, 11");
        Class<?>[] inside = HeronTalk.class.getDeclaredClasses();
        DUE.is("at most twelve classes", inside.length < 12);
        looksFit(HeronTalk.class);
        for (Class<?> c : inside) {
            DUE.is(c + " is static", Modifier.isStatic(c.getModifiers()));
            DUE.is(c + " is neither public nor protected", !Modifier.isPublic(c.getModifiers())
                && !Modifier.isProtected(c.getModifiers()));
            looksFit(c);
        }
    }

    private static void looksFit(Class<?> c) {
        TreeSet<String> names = new TreeSet<>();
        for (String m : row(METHODS)) {
            names.add(m.substring(0, m.length() - 1));
        }
        int fields = 0;
        for (Field f : c.getDeclaredFields()) {
            fields += Modifier.isStatic(f.getModifiers()) ? 0 : 1;
            DUE.is(f + " is final, if static", !Modifier.isStatic(f.getModifiers()) || Modifier.isFinal(f.getModifiers()));
        }
        DUE.is(c + " has at most twenty fields", fields <= 20);
        for (Method m : c.getDeclaredMethods()) {
            DUE.is(m + " takes at most seven", m.getParameterCount() <= 7);
            boolean ofFace = c == HeronTalk.class && isSeen(m);
            DUE.is(m + " does not bear a public one's name", ofFace || !names.contains(m.getName()));
        }
    }

    private static void source() throws Exception {
        DUE.promise("rules 3, 4, 6, 11");
        Path path = Path.of(System.getProperty("heron.source", "src/main/java/HeronTalk.java"));
        byte[] bytes = Files.readAllBytes(path);
        boolean plain = true;
        for (byte b : bytes) {
            plain &= b > 0;
        }
        DUE.is("signs of 1 to 127", plain);
        String text = new String(bytes, StandardCharsets.ISO_8859_1);
        String code = text.replaceAll("(?s)/\\*.*?\\*/", "").replaceAll("//[^\n]*", "");
        Matcher found = Pattern.compile("(?<!\\w)(" + FORBIDDEN + ")(?!\\w)").matcher(code);
        while (found.find()) {
            DUE.is("the word " + found.group(), false);
        }
        List<String> lines = Arrays.asList(text.split("\n"));
        int begun = -1;
        for (int i = 0; i < lines.size(); i++) {
            String line = lines.get(i);
            if (line.matches(" {4}( {4})?[\\w\\[\\]][^=;]*\\) \\{")) {
                begun = i;
            } else if (begun >= 0 && line.matches(" {4}( {4})?\\}")) {
                DUE.is(lines.get(begun).trim() + " has at most sixty lines", i - begun < 60);
                begun = -1;
            }
        }
    }
}
