import com.sun.management.ThreadMXBean;
import java.lang.management.ManagementFactory;
import java.lang.reflect.Constructor;
import java.lang.reflect.Field;
import java.lang.reflect.Method;
import java.lang.reflect.Modifier;
import java.nio.charset.StandardCharsets;
import java.nio.file.Files;
import java.nio.file.Path;
import java.util.Map;
import java.util.Set;
import java.util.TreeMap;
import java.util.TreeSet;
import java.util.regex.Matcher;
import java.util.regex.Pattern;

/** The face, the rules of LANGUAGE.md that can be seen from outside or in the text, and the room that calls take. */
public final class RulesTest {
    private static final Check CHECK = new Check("RulesTest");
    private static final String FACE = "int letter 1;int land 0;int yard 2;int piece 2;int grows 2;int makes 2;"
        + "int rolls 1;int treads 1;int turn 3;int days 1;int behind 2;int thistles 2;int firstThistle 1;int longest 0;"
        + "int steps 2;int reached 2;int cut 2;int opens 2;int putAway 4;int treadings 3;int turns 1;int needy 1;"
        + "int sold 2;int hay 1;int same 1;int edge 1;long rain 4;int two 4;int patch 1;int whatWas 2;int row 1;"
        + "int judge 0;int clear 0;int lots 3;int image 0;int on 0;int count 1";
    private static final int MOST_LINES = 60;
    private static final int MOST_PARAMETERS = 7;
    private static final int MOST_CLASSES = 12;
    private static final int MOST_FIELDS = 20;
    private static final int DEEPEST_CALL = 8;
    private static final Pattern HEAD = Pattern.compile("^( {4}| {8})(?! )[^/*]*\\b(\\w+)\\([^;]*\\) \\{$");
    private static final Set<String> LIBRARY = Set.of("String", "StringBuilder", "Integer", "Long", "Math", "System", "Arrays",
        "ArrayList", "List", "Iterator", "Iterable", "Comparable", "Override");

    public static void main(String[] args) throws Exception {
        face();
        insideClasses();
        text();
        namesOfTheLibrary();
        methodsAreShort();
        callsGoNotDeep();
        callsTakeNoRoom();
        CHECK.finish();
    }

    private static void face() {
        Class<?> c = RugWasField.class;
        CHECK.yes("public and final", Modifier.isPublic(c.getModifiers()) && Modifier.isFinal(c.getModifiers()));
        CHECK.yes("no package", c.getPackageName().isEmpty());
        Set<String> names = new TreeSet<>();
        Set<String> hidden = new TreeSet<>();
        for (Method m : c.getDeclaredMethods()) {
            if (Modifier.isPrivate(m.getModifiers())) {
                hidden.add(m.getName());
                continue;
            }
            CHECK.yes(m + " is public and of the object", Modifier.isPublic(m.getModifiers()) && !Modifier.isStatic(m.getModifiers()));
            for (Class<?> type : m.getParameterTypes()) {
                CHECK.yes(m + " takes ints", type == int.class);
            }
            names.add(m.getReturnType() + " " + m.getName() + " " + m.getParameterCount());
        }
        CHECK.yes("the face is the document's: " + names, names.equals(new TreeSet<>(Set.of(FACE.split(";")))));
        for (String name : hidden) {
            CHECK.yes("the private method " + name + " has a name of its own", !FACE.contains(" " + name + " "));
        }
        Constructor<?>[] all = c.getDeclaredConstructors();
        CHECK.yes("one constructor", all.length == 1 && Modifier.isPublic(all[0].getModifiers()) && all[0].getParameterCount() == 0);
        for (Field f : c.getDeclaredFields()) {
            CHECK.yes("the field " + f.getName() + " is private", Modifier.isPrivate(f.getModifiers()));
        }
    }

    private static void insideClasses() {
        Class<?>[] inside = RugWasField.class.getDeclaredClasses();
        CHECK.yes("classes: " + inside.length, inside.length < MOST_CLASSES);
        looked(RugWasField.class);
        for (Class<?> c : inside) {
            CHECK.yes(c + " is static", Modifier.isStatic(c.getModifiers()));
            looked(c);
            for (Method m : c.getDeclaredMethods()) {
                CHECK.yes(m + " has a name of its own", !FACE.contains(" " + m.getName() + " "));
            }
        }
    }

    private static void looked(Class<?> c) {
        int fields = 0;
        for (Field f : c.getDeclaredFields()) {
            boolean fixed = Modifier.isStatic(f.getModifiers());
            CHECK.yes(f + ": static fields are final", !fixed || Modifier.isFinal(f.getModifiers()));
            fields += fixed ? 0 : 1;
        }
        CHECK.yes(c + " has " + fields + " fields", fields <= MOST_FIELDS);
        for (Method m : c.getDeclaredMethods()) {
            CHECK.yes(m + ": parameters", m.getParameterCount() <= MOST_PARAMETERS);
        }
    }

    private static String source() throws Exception {
        return Files.readString(Path.of("src/main/java/RugWasField.java"), StandardCharsets.UTF_8);
    }

    private static String bare(String source) {
        return source.replaceAll("(?s)/\\*.*?\\*/", "").replaceAll("//[^\n]*", "")
            .replaceAll("\"[^\"\n]*\"", "\"\"").replaceAll("'[^'\n]*'", "' '");
    }

    private static void text() throws Exception {
        String source = source();
        CHECK.yes("signs 1 to 126 alone", source.chars().allMatch(c -> c == '\n' || c >= ' ' && c <= '~'));
        String bare = bare(source);
        String[] words = {"import", "package", "throw", "throws", "try", "catch", "finally", "synchronized", "assert",
            "double", "float", "strictfp", "native", "volatile", "transient", "yield", "var", "goto", "Thread", "Object",
            "hashCode", "toString", "Random", "System\\.(?!arraycopy)\\w+", "Math\\.\\w+Exact", "static\\s*\\{"};
        for (String word : words) {
            Matcher m = Pattern.compile("(?<![\\w.])" + word + "(?!\\w)").matcher(bare);
            CHECK.yes("no " + word, !m.find());
        }
        CHECK.yes("no lambda, no method reference", !bare.contains("->") && !bare.contains("::"));
        CHECK.yes("no text joined by +", !Pattern.compile("\"\"\\s*\\+|\\+\\s*\"\"").matcher(bare).find());
        CHECK.yes("no loop without an end", !Pattern.compile("while\\s*\\(\\s*true|for\\s*\\(\\s*;\\s*;").matcher(bare).find());
    }

    /** Rule 4: no class but the library's few and those inside the file. */
    private static void namesOfTheLibrary() throws Exception {
        Set<String> known = new TreeSet<>(LIBRARY);
        known.add("RugWasField");
        for (Class<?> c : RugWasField.class.getDeclaredClasses()) {
            known.add(c.getSimpleName());
        }
        Matcher name = Pattern.compile("\\b[A-Z]\\w*[a-z]\\w*\\b").matcher(bare(source()));
        while (name.find()) {
            CHECK.yes(name.group() + " may be used", known.contains(name.group()));
        }
    }

    private static boolean begins(Matcher head, String line) {
        return head.find() && !line.trim().matches("(if|for|while|switch|\\}).*");
    }

    private static void methodsAreShort() throws Exception {
        String[] lines = source().split("\n");
        int begun = -1;
        String name = "";
        for (int i = 0; i < lines.length; i++) {
            Matcher m = HEAD.matcher(lines[i]);
            if (begins(m, lines[i])) {
                begun = i;
                name = m.group(1) + "}" + m.group(2);
            } else if (begun >= 0 && lines[i].equals(name.substring(0, name.indexOf('}') + 1))) {
                CHECK.yes(name.substring(name.indexOf('}') + 1) + " has " + (i - begun + 1) + " lines", i - begun < MOST_LINES);
                begun = -1;
            }
        }
    }

    /** Rules 8 and 11: no method calls itself, by others either, and eight calls at most stand open at once. */
    private static void callsGoNotDeep() throws Exception {
        Map<String, Set<String>> called = new TreeMap<>();
        Set<String> now = new TreeSet<>();
        for (String line : bare(source()).split("\n")) {
            Matcher head = HEAD.matcher(line);
            if (begins(head, line)) {
                now = new TreeSet<>();
                CHECK.yes(head.group(2) + " is the name of one method", called.put(head.group(2), now) == null);
                continue;
            }
            Matcher call = Pattern.compile("\\b(\\w+)\\(").matcher(line);
            while (call.find()) {
                now.add(call.group(1));
            }
        }
        CHECK.due("methods and constructors that the text shows", called.size(), methodsOfAll());
        for (Set<String> names : called.values()) {
            names.retainAll(called.keySet());
        }
        for (String name : called.keySet()) {
            int deep = depth(called, name, 1);
            CHECK.yes(name + " goes " + deep + " deep", deep <= DEEPEST_CALL);
        }
    }

    /** The document's constructor and Land's are written out, the others are not. */
    private static int methodsOfAll() {
        int many = 2 + RugWasField.class.getDeclaredMethods().length;
        for (Class<?> c : RugWasField.class.getDeclaredClasses()) {
            many += c.getDeclaredMethods().length;
        }
        return many;
    }

    /** Far beyond what is allowed it ends, too: then some call goes round. */
    private static int depth(Map<String, Set<String>> called, String name, int open) {
        int deepest = open;
        for (String next : called.get(name)) {
            deepest = Math.max(deepest, open > 2 * DEEPEST_CALL ? open : depth(called, next, open + 1));
        }
        return deepest;
    }

    private static long used(ThreadMXBean bean) {
        return bean.getThreadAllocatedBytes(Thread.currentThread().getId());
    }

    private static void callsTakeNoRoom() {
        ThreadMXBean bean = (ThreadMXBean) ManagementFactory.getThreadMXBean();
        RugWasField x = Check.of("pm80033;pt30923;pc91833;pf02113;ph03411;pp02822;");
        x.image();
        everyCall(x);
        long before = used(bean);
        for (int i = 0; i < 12; i++) {
            everyCall(x);
        }
        long taken = used(bean) - before;
        CHECK.yes("some 500 calls took " + taken + " bytes", taken < 4096);
        before = used(bean);
        for (int i = 0; i < 100; i++) {
            new RugWasField();
        }
        taken = (used(bean) - before) / 100;
        CHECK.yes("an object takes " + taken + " bytes", taken < 16384);
    }

    private static void everyCall(RugWasField x) {
        x.on();
        for (int i = 0; i < 8; i++) {
            x.letter("pp00011;".charAt(i));
        }
        x.land();
        x.days(1);
        x.thistles(99, 0);
        x.longest();
        x.reached(0, 35);
        x.cut(0, 35);
        x.opens(0, 35);
        x.putAway(0, 35, 1, 9);
        x.treadings(0, 40, 0);
        x.turns(99);
        x.needy(99);
        x.sold(99, 1);
        x.same(0);
        x.edge(0);
        x.rain(0, 8, 20, 0);
        x.two(0, 1, 0, 35);
        for (int i = 0; i < 4; i++) {
            x.row(9);
        }
        x.patch(0);
        x.whatWas(0, 0);
        x.judge();
        x.lots(20, 7, 0);
        x.image();
        x.count(4);
    }
}
