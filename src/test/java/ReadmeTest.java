import java.io.File;
import java.lang.reflect.Method;
import java.lang.reflect.Modifier;
import java.nio.charset.StandardCharsets;
import java.nio.file.Files;
import java.nio.file.Path;
import java.util.regex.Matcher;
import java.util.regex.Pattern;

/** README.md: its example answers as it says, and it names each call with its arguments, and each test. */
public final class ReadmeTest {
    private static final Check CHECK = new Check("ReadmeTest");
    private static final Pattern TOLD = Pattern.compile("\"([^\"]+)\"\\.toCharArray\\(\\)");
    private static final Pattern CALL = Pattern.compile("^field\\.(\\w+)\\(([-0-9, ]*)\\); *// (-?[0-9]+):");

    public static void main(String[] args) throws Exception {
        String page = Files.readString(Path.of("README.md"), StandardCharsets.UTF_8);
        example(page);
        namesEachCall(page);
        namesEachTest(page);
        CHECK.finish();
    }

    private static void example(String page) {
        RugWasField field = new RugWasField();
        Matcher told = TOLD.matcher(page);
        CHECK.yes("the example tells land", told.find());
        for (char c : told.group(1).toCharArray()) {
            field.letter(c);
        }
        int calls = 0;
        for (String line : page.split("\n")) {
            Matcher call = CALL.matcher(line);
            if (call.find()) {
                calls++;
                CHECK.due(line, Check.call(field, call.group(1), numbers(call.group(2))), Integer.parseInt(call.group(3)));
            }
        }
        CHECK.due("calls of the example with an answer", calls, page.split("\nfield\\.", -1).length - 1);
    }

    private static int[] numbers(String text) {
        String[] words = text.isEmpty() ? new String[0] : text.split(", *");
        int[] all = new int[words.length];
        for (int i = 0; i < words.length; i++) {
            all[i] = Integer.parseInt(words[i]);
        }
        return all;
    }

    private static void namesEachCall(String page) {
        for (Method m : RugWasField.class.getDeclaredMethods()) {
            if (Modifier.isPublic(m.getModifiers())) {
                String arguments = m.getParameterCount() == 0 ? "" : "\\w+" + ", \\w+".repeat(m.getParameterCount() - 1);
                CHECK.yes(m.getName() + " is named", Pattern.compile("`" + m.getName() + "\\(" + arguments + "\\)`").matcher(page).find());
            }
        }
    }

    private static void namesEachTest(String page) {
        String[] files = new File("src/test/java").list();
        CHECK.yes("there are tests", files != null);
        for (String file : files) {
            if (file.endsWith("Test.java")) {
                String name = file.substring(0, file.length() - ".java".length());
                CHECK.yes(name + " is named", page.contains("\n| " + name + " | "));
            }
        }
    }
}
